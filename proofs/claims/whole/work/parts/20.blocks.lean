/-! HandsLet$Course.begin(LHandsLet$Plan;LHandsLet$World;I)V -/
theorem D0_0 : decode prog_2_method_2_code 0 = .ok (.aload_n 0, 1) := by decide +kernel
theorem D0_1 : decode prog_2_method_2_code 1 = .ok (.aload_n 1, 1) := by decide +kernel
theorem D0_2 : decode prog_2_method_2_code 2 = .ok (.putfield 18, 3) := by decide +kernel
theorem D0_5 : decode prog_2_method_2_code 5 = .ok (.aload_n 0, 1) := by decide +kernel
theorem D0_6 : decode prog_2_method_2_code 6 = .ok (.aload_n 2, 1) := by decide +kernel
theorem D0_7 : decode prog_2_method_2_code 7 = .ok (.putfield 22, 3) := by decide +kernel
theorem D0_10 : decode prog_2_method_2_code 10 = .ok (.aload_n 0, 1) := by decide +kernel
theorem D0_11 : decode prog_2_method_2_code 11 = .ok (.iload_n 3, 1) := by decide +kernel
theorem D0_12 : decode prog_2_method_2_code 12 = .ok (.putfield 26, 3) := by decide +kernel
theorem D0_15 : decode prog_2_method_2_code 15 = .ok (.aload_n 0, 1) := by decide +kernel
theorem D0_16 : decode prog_2_method_2_code 16 = .ok (.aload_n 0, 1) := by decide +kernel
theorem D0_17 : decode prog_2_method_2_code 17 = .ok (.getfield 18, 3) := by decide +kernel
theorem D0_20 : decode prog_2_method_2_code 20 = .ok (.getfield 30, 3) := by decide +kernel
theorem D0_23 : decode prog_2_method_2_code 23 = .ok (.iconst 0, 1) := by decide +kernel
theorem D0_24 : decode prog_2_method_2_code 24 = .ok (.iaload, 1) := by decide +kernel
theorem D0_25 : decode prog_2_method_2_code 25 = .ok (.putfield 36, 3) := by decide +kernel
theorem D0_28 : decode prog_2_method_2_code 28 = .ok (.aload_n 0, 1) := by decide +kernel
theorem D0_29 : decode prog_2_method_2_code 29 = .ok (.iconst (-1), 1) := by decide +kernel
theorem D0_30 : decode prog_2_method_2_code 30 = .ok (.putfield 39, 3) := by decide +kernel
theorem D0_33 : decode prog_2_method_2_code 33 = .ok (.aload_n 0, 1) := by decide +kernel
theorem D0_34 : decode prog_2_method_2_code 34 = .ok (.iconst 0, 1) := by decide +kernel
theorem D0_35 : decode prog_2_method_2_code 35 = .ok (.putfield 42, 3) := by decide +kernel
theorem D0_38 : decode prog_2_method_2_code 38 = .ok (.aload_n 0, 1) := by decide +kernel
theorem D0_39 : decode prog_2_method_2_code 39 = .ok (.iconst 0, 1) := by decide +kernel
theorem D0_40 : decode prog_2_method_2_code 40 = .ok (.putfield 46, 3) := by decide +kernel
theorem D0_43 : decode prog_2_method_2_code 43 = .ok (.return_, 1) := by decide +kernel

theorem b0_0 {d : Nat} {p1 : Nat} {w2 : Nat} {i3 : Int32} {ia : Nat → Nat → Int32} {la : Nat → Nat → Int64} {pl dr : Nat} {cp : Option Nat} {cw : Option Nat} {rp : Option Nat} {K : Option Value → zHP → Prop} (hp1 : zIsP p1) (hw2 : zIsW w2) : zWP d 0 0 [some (.ref 102), some (.ref p1), some (.ref w2), some (.int i3)] [] (ia, la, zRA pl dr cp cw rp) K = K none ((zu (zu (zu (zu (zu ia 102 3 i3) 102 4 ((zu ia 102 3 i3) (p1 + 28) 0)) 102 5 (-1 : Int32)) 102 6 (0 : Int32)) 102 7 (0 : Int32)), la, zRA pl dr (some p1) (some w2) rp) := by
  refine (Q_aload_n zm_0 (Or.inl (by decide)) D0_0 rfl).trans ?_
  refine (Q_aload_n zm_0 (Or.inl (by decide)) D0_1 rfl).trans ?_
  refine (Q_putR zm_0 (Or.inl (by decide)) D0_2 zf_0_18 zs_0_1 rfl zk_102.1).trans ?_
  refine (congrArg (fun q => zWP d 0 5 [some (.ref 102), some (.ref p1), some (.ref w2), some (.int i3)] [] (ia, la, q) K) (zRA_cp p1)).trans ?_
  refine (Q_aload_n zm_0 (Or.inl (by decide)) D0_5 rfl).trans ?_
  refine (Q_aload_n zm_0 (Or.inl (by decide)) D0_6 rfl).trans ?_
  refine (Q_putR zm_0 (Or.inl (by decide)) D0_7 zf_0_22 zs_0_2 rfl zk_102.1).trans ?_
  refine (congrArg (fun q => zWP d 0 10 [some (.ref 102), some (.ref p1), some (.ref w2), some (.int i3)] [] (ia, la, q) K) (zRA_cw w2)).trans ?_
  refine (Q_aload_n zm_0 (Or.inl (by decide)) D0_10 rfl).trans ?_
  refine (Q_iload_n zm_0 (Or.inl (by decide)) D0_11 rfl).trans ?_
  refine (Q_putI zm_0 (Or.inl (by decide)) D0_12 zf_0_26 zs_0_3 rfl zk_102.1).trans ?_
  refine (Q_aload_n zm_0 (Or.inl (by decide)) D0_15 rfl).trans ?_
  refine (Q_aload_n zm_0 (Or.inl (by decide)) D0_16 rfl).trans ?_
  refine (Q_getR (q := p1) zm_0 (Or.inl (by decide)) D0_17 zf_0_18 zs_0_1 zk_102.1 rfl).trans ?_
  refine (Q_getR (q := (p1 + 28)) zm_0 (Or.inl (by decide)) D0_20 zf_0_30 zs_3_10 (zkp_0 hp1).1 (zrp_10 hp1)).trans ?_
  refine (Q_iconst (v := 0) zm_0 (Or.inl (by decide)) D0_23 (by decide)).trans ?_
  refine ((Q_iaload zm_0 (Or.inl (by decide)) D0_24 (zkp_28 hp1).1 (zkp_28 hp1).2).trans (zdrop (zin_spec (by decide)))).trans ?_
  refine (Q_putI zm_0 (Or.inl (by decide)) D0_25 zf_0_36 zs_0_4 rfl zk_102.1).trans ?_
  refine (Q_aload_n zm_0 (Or.inl (by decide)) D0_28 rfl).trans ?_
  refine (Q_iconst (v := -1) zm_0 (Or.inl (by decide)) D0_29 (by decide)).trans ?_
  refine (Q_putI zm_0 (Or.inl (by decide)) D0_30 zf_0_39 zs_0_5 rfl zk_102.1).trans ?_
  refine (Q_aload_n zm_0 (Or.inl (by decide)) D0_33 rfl).trans ?_
  refine (Q_iconst (v := 0) zm_0 (Or.inl (by decide)) D0_34 (by decide)).trans ?_
  refine (Q_putZ zm_0 (Or.inl (by decide)) D0_35 zf_0_42 zs_0_6 rfl zk_102.1 (by decide)).trans ?_
  refine (Q_aload_n zm_0 (Or.inl (by decide)) D0_38 rfl).trans ?_
  refine (Q_iconst (v := 0) zm_0 (Or.inl (by decide)) D0_39 (by decide)).trans ?_
  refine (Q_putZ zm_0 (Or.inl (by decide)) D0_40 zf_0_46 zs_0_7 rfl zk_102.1 (by decide)).trans ?_
  exact Q_return zm_0 (Or.inl (by decide)) D0_43 rfl

/-! HandsLet$Course.play(I)V -/
theorem D1_0 : decode prog_2_method_3_code 0 = .ok (.iconst 0, 1) := by decide +kernel
theorem D1_1 : decode prog_2_method_3_code 1 = .ok (.istore_n 2, 1) := by decide +kernel
theorem D1_2 : decode prog_2_method_3_code 2 = .ok (.iload_n 2, 1) := by decide +kernel
theorem D1_3 : decode prog_2_method_3_code 3 = .ok (.iload_n 1, 1) := by decide +kernel
theorem D1_4 : decode prog_2_method_3_code 4 = .ok (.if_icmp .ge 13, 3) := by decide +kernel
theorem D1_7 : decode prog_2_method_3_code 7 = .ok (.aload_n 0, 1) := by decide +kernel
theorem D1_8 : decode prog_2_method_3_code 8 = .ok (.invokevirtual 49, 3) := by decide +kernel
theorem D1_11 : decode prog_2_method_3_code 11 = .ok (.iinc 2 1, 3) := by decide +kernel
theorem D1_14 : decode prog_2_method_3_code 14 = .ok (.goto (-12), 3) := by decide +kernel
theorem D1_17 : decode prog_2_method_3_code 17 = .ok (.return_, 1) := by decide +kernel

theorem b1_0 {d : Nat} {i1 : Int32} {ia : Nat → Nat → Int32} {la : Nat → Nat → Int64} {pl dr : Nat} {cp : Nat} {cw : Nat} {rp : Option Nat} {K : Option Value → zHP → Prop}  : zWP d 1 0 [some (.ref 102), some (.int i1), none] [] (ia, la, zRA pl dr (some cp) (some cw) rp) K = zWP d 1 2 [some (.ref 102), some (.int i1), some (.int (0 : Int32))] [] (ia, la, zRA pl dr (some cp) (some cw) rp) K := by
  refine (Q_iconst (v := 0) zm_1 (Or.inl (by decide)) D1_0 (by decide)).trans ?_
  refine (Q_istore_n (ls' := [some (.ref 102), some (.int i1), some (.int (0 : Int32))]) zm_1 (Or.inl (by decide)) D1_1 rfl (Nat.le_of_ble_eq_true rfl) rfl).trans ?_
  rfl

theorem b1_2 {d : Nat} {i1 : Int32} {i2 : Int32} {ia : Nat → Nat → Int32} {la : Nat → Nat → Int64} {pl dr : Nat} {cp : Nat} {cw : Nat} {rp : Option Nat} {K : Option Value → zHP → Prop}  : zWP (d + 1) 1 2 [some (.ref 102), some (.int i1), some (.int i2)] [] (ia, la, zRA pl dr (some cp) (some cw) rp) K = (if i1 ≤ i2 then K none (ia, la, zRA pl dr (some cp) (some cw) rp) else zWM d 2 [.ref 102] (ia, la, zRA pl dr (some cp) (some cw) rp) (zK (d + 1) 1 11 [some (.ref 102), some (.int i1), some (.int i2)] [] K)) := by
  refine (Q_iload_n zm_1 (Or.inl (by decide)) D1_2 rfl).trans ?_
  refine (Q_iload_n zm_1 (Or.inl (by decide)) D1_3 rfl).trans ?_
  refine (Q_ic_ge (tgt := 17) zm_1 (Or.inl (by decide)) D1_4 (by decide)).trans ?_
  refine zif_c (fun h0_ => ?_) (fun h0_ => ?_)
  · exact Q_return zm_1 (Or.inl (by decide)) D1_17 rfl
  · refine (Q_aload_n zm_1 (Or.inl (by decide)) D1_7 rfl).trans ?_
    exact Q_callv (as := []) (b := 102) (rest := []) zm_1 (Or.inl (by decide)) D1_8 zc_0_49 rfl zk_102.1 (by decide) (by decide +kernel) (by decide) (by simp [zcat, Value.category]) zm_2 rfl

theorem b1_11 {d : Nat} {i1 : Int32} {i2 : Int32} {ia : Nat → Nat → Int32} {la : Nat → Nat → Int64} {pl dr : Nat} {cp : Nat} {cw : Nat} {rp : Option Nat} {K : Option Value → zHP → Prop}  : zWP d 1 11 [some (.ref 102), some (.int i1), some (.int i2)] [] (ia, la, zRA pl dr (some cp) (some cw) rp) K = zWP d 1 2 [some (.ref 102), some (.int i1), some (.int (i2 + (1 : Int32)))] [] (ia, la, zRA pl dr (some cp) (some cw) rp) K := by
  refine (Q_iinc (v := 1) (ls' := [some (.ref 102), some (.int i1), some (.int (i2 + (1 : Int32)))]) zm_1 (Or.inl (by decide)) D1_11 rfl rfl (by decide) rfl).trans ?_
  refine (Q_goto (tgt := 2) zm_1 (Or.inl (by decide)) D1_14 (by decide)).trans ?_
  rfl

/-! HandsLet$Course.playDay()V -/
theorem D2_0 : decode prog_2_method_4_code 0 = .ok (.aload_n 0, 1) := by decide +kernel
theorem D2_1 : decode prog_2_method_4_code 1 = .ok (.getfield 22, 3) := by decide +kernel
theorem D2_4 : decode prog_2_method_4_code 4 = .ok (.getfield 52, 3) := by decide +kernel
theorem D2_7 : decode prog_2_method_4_code 7 = .ok (.bipush 99, 2) := by decide +kernel
theorem D2_9 : decode prog_2_method_4_code 9 = .ok (.if_icmp .gt 41, 3) := by decide +kernel
theorem D2_12 : decode prog_2_method_4_code 12 = .ok (.aload_n 0, 1) := by decide +kernel
theorem D2_13 : decode prog_2_method_4_code 13 = .ok (.invokevirtual 57, 3) := by decide +kernel
theorem D2_16 : decode prog_2_method_4_code 16 = .ok (.aload_n 0, 1) := by decide +kernel
theorem D2_17 : decode prog_2_method_4_code 17 = .ok (.getfield 22, 3) := by decide +kernel
theorem D2_20 : decode prog_2_method_4_code 20 = .ok (.getfield 60, 3) := by decide +kernel
theorem D2_23 : decode prog_2_method_4_code 23 = .ok (.istore_n 1, 1) := by decide +kernel
theorem D2_24 : decode prog_2_method_4_code 24 = .ok (.aload_n 0, 1) := by decide +kernel
theorem D2_25 : decode prog_2_method_4_code 25 = .ok (.invokevirtual 63, 3) := by decide +kernel
theorem D2_28 : decode prog_2_method_4_code 28 = .ok (.aload_n 0, 1) := by decide +kernel
theorem D2_29 : decode prog_2_method_4_code 29 = .ok (.getfield 22, 3) := by decide +kernel
theorem D2_32 : decode prog_2_method_4_code 32 = .ok (.getfield 60, 3) := by decide +kernel
theorem D2_35 : decode prog_2_method_4_code 35 = .ok (.iload_n 1, 1) := by decide +kernel
theorem D2_36 : decode prog_2_method_4_code 36 = .ok (.if_icmp .le 14, 3) := by decide +kernel
theorem D2_39 : decode prog_2_method_4_code 39 = .ok (.aload_n 0, 1) := by decide +kernel
theorem D2_40 : decode prog_2_method_4_code 40 = .ok (.invokevirtual 66, 3) := by decide +kernel
theorem D2_43 : decode prog_2_method_4_code 43 = .ok (.ifCond .eq 7, 3) := by decide +kernel
theorem D2_46 : decode prog_2_method_4_code 46 = .ok (.aload_n 0, 1) := by decide +kernel
theorem D2_47 : decode prog_2_method_4_code 47 = .ok (.invokevirtual 70, 3) := by decide +kernel
theorem D2_50 : decode prog_2_method_4_code 50 = .ok (.iconst 0, 1) := by decide +kernel
theorem D2_51 : decode prog_2_method_4_code 51 = .ok (.istore_n 1, 1) := by decide +kernel
theorem D2_52 : decode prog_2_method_4_code 52 = .ok (.iload_n 1, 1) := by decide +kernel
theorem D2_53 : decode prog_2_method_4_code 53 = .ok (.aload_n 0, 1) := by decide +kernel
theorem D2_54 : decode prog_2_method_4_code 54 = .ok (.getfield 18, 3) := by decide +kernel
theorem D2_57 : decode prog_2_method_4_code 57 = .ok (.getfield 73, 3) := by decide +kernel
theorem D2_60 : decode prog_2_method_4_code 60 = .ok (.if_icmp .ge 50, 3) := by decide +kernel
theorem D2_63 : decode prog_2_method_4_code 63 = .ok (.aload_n 0, 1) := by decide +kernel
theorem D2_64 : decode prog_2_method_4_code 64 = .ok (.getfield 22, 3) := by decide +kernel
theorem D2_67 : decode prog_2_method_4_code 67 = .ok (.iload_n 1, 1) := by decide +kernel
theorem D2_68 : decode prog_2_method_4_code 68 = .ok (.invokevirtual 76, 3) := by decide +kernel
theorem D2_71 : decode prog_2_method_4_code 71 = .ok (.ifCond .eq 33, 3) := by decide +kernel
theorem D2_74 : decode prog_2_method_4_code 74 = .ok (.aload_n 0, 1) := by decide +kernel
theorem D2_75 : decode prog_2_method_4_code 75 = .ok (.getfield 22, 3) := by decide +kernel
theorem D2_78 : decode prog_2_method_4_code 78 = .ok (.getfield 80, 3) := by decide +kernel
theorem D2_81 : decode prog_2_method_4_code 81 = .ok (.iload_n 1, 1) := by decide +kernel
theorem D2_82 : decode prog_2_method_4_code 82 = .ok (.dup2, 1) := by decide +kernel
theorem D2_83 : decode prog_2_method_4_code 83 = .ok (.iaload, 1) := by decide +kernel
theorem D2_84 : decode prog_2_method_4_code 84 = .ok (.iconst 1, 1) := by decide +kernel
theorem D2_85 : decode prog_2_method_4_code 85 = .ok (.isub, 1) := by decide +kernel
theorem D2_86 : decode prog_2_method_4_code 86 = .ok (.iastore, 1) := by decide +kernel
theorem D2_87 : decode prog_2_method_4_code 87 = .ok (.aload_n 0, 1) := by decide +kernel
theorem D2_88 : decode prog_2_method_4_code 88 = .ok (.getfield 22, 3) := by decide +kernel
theorem D2_91 : decode prog_2_method_4_code 91 = .ok (.getfield 80, 3) := by decide +kernel
theorem D2_94 : decode prog_2_method_4_code 94 = .ok (.iload_n 1, 1) := by decide +kernel
theorem D2_95 : decode prog_2_method_4_code 95 = .ok (.iaload, 1) := by decide +kernel
theorem D2_96 : decode prog_2_method_4_code 96 = .ok (.ifCond .gt 8, 3) := by decide +kernel
theorem D2_99 : decode prog_2_method_4_code 99 = .ok (.aload_n 0, 1) := by decide +kernel
theorem D2_100 : decode prog_2_method_4_code 100 = .ok (.iload_n 1, 1) := by decide +kernel
theorem D2_101 : decode prog_2_method_4_code 101 = .ok (.invokevirtual 83, 3) := by decide +kernel
theorem D2_104 : decode prog_2_method_4_code 104 = .ok (.iinc 1 1, 3) := by decide +kernel
theorem D2_107 : decode prog_2_method_4_code 107 = .ok (.goto (-55), 3) := by decide +kernel
theorem D2_110 : decode prog_2_method_4_code 110 = .ok (.aload_n 0, 1) := by decide +kernel
theorem D2_111 : decode prog_2_method_4_code 111 = .ok (.getfield 22, 3) := by decide +kernel
theorem D2_114 : decode prog_2_method_4_code 114 = .ok (.dup, 1) := by decide +kernel
theorem D2_115 : decode prog_2_method_4_code 115 = .ok (.getfield 52, 3) := by decide +kernel
theorem D2_118 : decode prog_2_method_4_code 118 = .ok (.iconst 1, 1) := by decide +kernel
theorem D2_119 : decode prog_2_method_4_code 119 = .ok (.iadd, 1) := by decide +kernel
theorem D2_120 : decode prog_2_method_4_code 120 = .ok (.putfield 52, 3) := by decide +kernel
theorem D2_123 : decode prog_2_method_4_code 123 = .ok (.return_, 1) := by decide +kernel

theorem b2_0 {d : Nat}  {ia : Nat → Nat → Int32} {la : Nat → Nat → Int64} {pl dr : Nat} {cp : Nat} {cw : Nat} {rp : Option Nat} {K : Option Value → zHP → Prop} (hcw : zIsW cw) : zWP (d + 1) 2 0 [some (.ref 102), none] [] (ia, la, zRA pl dr (some cp) (some cw) rp) K = (if (99 : Int32) < (ia cw 0) then zWP (d + 1) 2 52 [some (.ref 102), some (.int (0 : Int32))] [] (ia, la, zRA pl dr (some cp) (some cw) rp) K else zWM d 3 [.ref 102] (ia, la, zRA pl dr (some cp) (some cw) rp) (zK (d + 1) 2 16 [some (.ref 102), none] [] K)) := by
  refine (Q_aload_n zm_2 (Or.inl (by decide)) D2_0 rfl).trans ?_
  refine (Q_getR (q := cw) zm_2 (Or.inl (by decide)) D2_1 zf_0_22 zs_0_2 zk_102.1 rfl).trans ?_
  refine (Q_getI zm_2 (Or.inl (by decide)) D2_4 zf_0_52 (Or.inl zs_8_0) (zkw_0 hcw).1).trans ?_
  refine (Q_bipush (v := 99) zm_2 (Or.inl (by decide)) D2_7 (by decide)).trans ?_
  refine (Q_ic_gt (tgt := 50) zm_2 (Or.inl (by decide)) D2_9 (by decide)).trans ?_
  refine zif_c (fun h0_ => ?_) (fun h0_ => ?_)
  · refine (Q_iconst (v := 0) zm_2 (Or.inl (by decide)) D2_50 (by decide)).trans ?_
    refine (Q_istore_n (ls' := [some (.ref 102), some (.int (0 : Int32))]) zm_2 (Or.inl (by decide)) D2_51 rfl (Nat.le_of_ble_eq_true rfl) rfl).trans ?_
    rfl
  · refine (Q_aload_n zm_2 (Or.inl (by decide)) D2_12 rfl).trans ?_
    exact Q_callv (as := []) (b := 102) (rest := []) zm_2 (Or.inl (by decide)) D2_13 zc_0_57 rfl zk_102.1 (by decide) (by decide +kernel) (by decide) (by simp [zcat, Value.category]) zm_3 rfl

theorem b2_52 {d : Nat} {i1 : Int32} {ia : Nat → Nat → Int32} {la : Nat → Nat → Int64} {pl dr : Nat} {cp : Nat} {cw : Nat} {rp : Option Nat} {K : Option Value → zHP → Prop} (hcp : zIsP cp) (hcw : zIsW cw) : zWP (d + 1) 2 52 [some (.ref 102), some (.int i1)] [] (ia, la, zRA pl dr (some cp) (some cw) rp) K = (if (ia cp 1) ≤ i1 then K none ((zu ia cw 0 ((ia cw 0) + (1 : Int32))), la, zRA pl dr (some cp) (some cw) rp) else zWM d 69 [.ref cw, .int i1] (ia, la, zRA pl dr (some cp) (some cw) rp) (zK (d + 1) 2 71 [some (.ref 102), some (.int i1)] [] K)) := by
  refine (Q_iload_n zm_2 (Or.inl (by decide)) D2_52 rfl).trans ?_
  refine (Q_aload_n zm_2 (Or.inl (by decide)) D2_53 rfl).trans ?_
  refine (Q_getR (q := cp) zm_2 (Or.inl (by decide)) D2_54 zf_0_18 zs_0_1 zk_102.1 rfl).trans ?_
  refine (Q_getI zm_2 (Or.inl (by decide)) D2_57 zf_0_73 (Or.inl zs_3_1) (zkp_0 hcp).1).trans ?_
  refine (Q_ic_ge (tgt := 110) zm_2 (Or.inl (by decide)) D2_60 (by decide)).trans ?_
  refine zif_c (fun h0_ => ?_) (fun h0_ => ?_)
  · refine (Q_aload_n zm_2 (Or.inl (by decide)) D2_110 rfl).trans ?_
    refine (Q_getR (q := cw) zm_2 (Or.inl (by decide)) D2_111 zf_0_22 zs_0_2 zk_102.1 rfl).trans ?_
    refine (Q_dup zm_2 (Or.inl (by decide)) D2_114 rfl).trans ?_
    refine (Q_getI zm_2 (Or.inl (by decide)) D2_115 zf_0_52 (Or.inl zs_8_0) (zkw_0 hcw).1).trans ?_
    refine (Q_iconst (v := 1) zm_2 (Or.inl (by decide)) D2_118 (by decide)).trans ?_
    refine (Q_iadd zm_2 (Or.inl (by decide)) D2_119).trans ?_
    refine (Q_putI zm_2 (Or.inl (by decide)) D2_120 zf_0_52 zs_8_0 rfl (zkw_0 hcw).1).trans ?_
    exact Q_return zm_2 (Or.inl (by decide)) D2_123 rfl
  · refine (Q_aload_n zm_2 (Or.inl (by decide)) D2_63 rfl).trans ?_
    refine (Q_getR (q := cw) zm_2 (Or.inl (by decide)) D2_64 zf_0_22 zs_0_2 zk_102.1 rfl).trans ?_
    refine (Q_iload_n zm_2 (Or.inl (by decide)) D2_67 rfl).trans ?_
    exact Q_callv (as := [.int i1]) (b := cw) (rest := []) zm_2 (Or.inl (by decide)) D2_68 zc_0_76 rfl (zkw_0 hcw).1 (by decide) (by decide +kernel) (by decide) (by simp [zcat, Value.category]) zm_69 rfl

theorem b2_16 {d : Nat}  {ia : Nat → Nat → Int32} {la : Nat → Nat → Int64} {pl dr : Nat} {cp : Nat} {cw : Nat} {rp : Option Nat} {K : Option Value → zHP → Prop} (hcw : zIsW cw) : zWP (d + 1) 2 16 [some (.ref 102), none] [] (ia, la, zRA pl dr (some cp) (some cw) rp) K = zWM d 4 [.ref 102] (ia, la, zRA pl dr (some cp) (some cw) rp) (zK (d + 1) 2 28 [some (.ref 102), some (.int (ia cw 11))] [] K) := by
  refine (Q_aload_n zm_2 (Or.inl (by decide)) D2_16 rfl).trans ?_
  refine (Q_getR (q := cw) zm_2 (Or.inl (by decide)) D2_17 zf_0_22 zs_0_2 zk_102.1 rfl).trans ?_
  refine (Q_getI zm_2 (Or.inl (by decide)) D2_20 zf_0_60 (Or.inl zs_8_11) (zkw_0 hcw).1).trans ?_
  refine (Q_istore_n (ls' := [some (.ref 102), some (.int (ia cw 11))]) zm_2 (Or.inl (by decide)) D2_23 rfl (Nat.le_of_ble_eq_true rfl) rfl).trans ?_
  refine (Q_aload_n zm_2 (Or.inl (by decide)) D2_24 rfl).trans ?_
  exact Q_callv (as := []) (b := 102) (rest := []) zm_2 (Or.inl (by decide)) D2_25 zc_0_63 rfl zk_102.1 (by decide) (by decide +kernel) (by decide) (by simp [zcat, Value.category]) zm_4 rfl

theorem b2_71 {d : Nat} {i1 : Int32} {s0 : Int32} {ia : Nat → Nat → Int32} {la : Nat → Nat → Int64} {pl dr : Nat} {cp : Nat} {cw : Nat} {rp : Option Nat} {K : Option Value → zHP → Prop} (hcw : zIsW cw) : zWP (d + 1) 2 71 [some (.ref 102), some (.int i1)] [.int s0] (ia, la, zRA pl dr (some cp) (some cw) rp) K = (if s0 = 0 then zWP (d + 1) 2 52 [some (.ref 102), some (.int (i1 + (1 : Int32)))] [] (ia, la, zRA pl dr (some cp) (some cw) rp) K else (vp_in i1 6 ∧ (if 0 < ((zu ia (cw + 4) (i1).toNatClampNeg ((ia (cw + 4) (i1).toNatClampNeg) - (1 : Int32))) (cw + 4) (i1).toNatClampNeg) then zWP (d + 1) 2 52 [some (.ref 102), some (.int (i1 + (1 : Int32)))] [] ((zu ia (cw + 4) (i1).toNatClampNeg ((ia (cw + 4) (i1).toNatClampNeg) - (1 : Int32))), la, zRA pl dr (some cp) (some cw) rp) K else zWM d 9 [.ref 102, .int i1] ((zu ia (cw + 4) (i1).toNatClampNeg ((ia (cw + 4) (i1).toNatClampNeg) - (1 : Int32))), la, zRA pl dr (some cp) (some cw) rp) (zK (d + 1) 2 104 [some (.ref 102), some (.int i1)] [] K)))) := by
  refine (Q_if_eq (tgt := 104) zm_2 (Or.inl (by decide)) D2_71 (by decide)).trans ?_
  refine zif_c (fun h0_ => ?_) (fun h0_ => ?_)
  · refine (Q_iinc (v := 1) (ls' := [some (.ref 102), some (.int (i1 + (1 : Int32)))]) zm_2 (Or.inl (by decide)) D2_104 rfl rfl (by decide) rfl).trans ?_
    refine (Q_goto (tgt := 52) zm_2 (Or.inl (by decide)) D2_107 (by decide)).trans ?_
    rfl
  · refine (Q_aload_n zm_2 (Or.inl (by decide)) D2_74 rfl).trans ?_
    refine (Q_getR (q := cw) zm_2 (Or.inl (by decide)) D2_75 zf_0_22 zs_0_2 zk_102.1 rfl).trans ?_
    refine (Q_getR (q := (cw + 4)) zm_2 (Or.inl (by decide)) D2_78 zf_0_80 zs_8_5 (zkw_0 hcw).1 (zrw_5 hcw)).trans ?_
    refine (Q_iload_n zm_2 (Or.inl (by decide)) D2_81 rfl).trans ?_
    refine (Q_dup2 zm_2 (Or.inl (by decide)) D2_82 rfl rfl).trans ?_
    refine (Q_iaload zm_2 (Or.inl (by decide)) D2_83 (zkw_4 hcw).1 (zkw_4 hcw).2).trans ?_
    refine zand_c (fun h1_ => ?_)
    refine (Q_iconst (v := 1) zm_2 (Or.inl (by decide)) D2_84 (by decide)).trans ?_
    refine (Q_isub zm_2 (Or.inl (by decide)) D2_85).trans ?_
    refine ((Q_iastore zm_2 (Or.inl (by decide)) D2_86 (zkw_4 hcw).1 (zkw_4 hcw).2).trans (zdrop h1_)).trans ?_
    refine (Q_aload_n zm_2 (Or.inl (by decide)) D2_87 rfl).trans ?_
    refine (Q_getR (q := cw) zm_2 (Or.inl (by decide)) D2_88 zf_0_22 zs_0_2 zk_102.1 rfl).trans ?_
    refine (Q_getR (q := (cw + 4)) zm_2 (Or.inl (by decide)) D2_91 zf_0_80 zs_8_5 (zkw_0 hcw).1 (zrw_5 hcw)).trans ?_
    refine (Q_iload_n zm_2 (Or.inl (by decide)) D2_94 rfl).trans ?_
    refine ((Q_iaload zm_2 (Or.inl (by decide)) D2_95 (zkw_4 hcw).1 (zkw_4 hcw).2).trans (zdrop h1_)).trans ?_
    refine (Q_if_gt (tgt := 104) zm_2 (Or.inl (by decide)) D2_96 (by decide)).trans ?_
    refine zif_c (fun h2_ => ?_) (fun h2_ => ?_)
    · refine (Q_iinc (v := 1) (ls' := [some (.ref 102), some (.int (i1 + (1 : Int32)))]) zm_2 (Or.inl (by decide)) D2_104 rfl rfl (by decide) rfl).trans ?_
      refine (Q_goto (tgt := 52) zm_2 (Or.inl (by decide)) D2_107 (by decide)).trans ?_
      rfl
    · refine (Q_aload_n zm_2 (Or.inl (by decide)) D2_99 rfl).trans ?_
      refine (Q_iload_n zm_2 (Or.inl (by decide)) D2_100 rfl).trans ?_
      exact Q_callv (as := [.int i1]) (b := 102) (rest := []) zm_2 (Or.inl (by decide)) D2_101 zc_0_83 rfl zk_102.1 (by decide) (by decide +kernel) (by decide) (by simp [zcat, Value.category]) zm_9 rfl

theorem b2_28 {d : Nat} {i1 : Int32} {ia : Nat → Nat → Int32} {la : Nat → Nat → Int64} {pl dr : Nat} {cp : Nat} {cw : Nat} {rp : Option Nat} {K : Option Value → zHP → Prop} (hcw : zIsW cw) : zWP (d + 1) 2 28 [some (.ref 102), some (.int i1)] [] (ia, la, zRA pl dr (some cp) (some cw) rp) K = (if (ia cw 11) ≤ i1 then zWP (d + 1) 2 52 [some (.ref 102), some (.int (0 : Int32))] [] (ia, la, zRA pl dr (some cp) (some cw) rp) K else zWM d 7 [.ref 102] (ia, la, zRA pl dr (some cp) (some cw) rp) (zK (d + 1) 2 43 [some (.ref 102), some (.int i1)] [] K)) := by
  refine (Q_aload_n zm_2 (Or.inl (by decide)) D2_28 rfl).trans ?_
  refine (Q_getR (q := cw) zm_2 (Or.inl (by decide)) D2_29 zf_0_22 zs_0_2 zk_102.1 rfl).trans ?_
  refine (Q_getI zm_2 (Or.inl (by decide)) D2_32 zf_0_60 (Or.inl zs_8_11) (zkw_0 hcw).1).trans ?_
  refine (Q_iload_n zm_2 (Or.inl (by decide)) D2_35 rfl).trans ?_
  refine (Q_ic_le (tgt := 50) zm_2 (Or.inl (by decide)) D2_36 (by decide)).trans ?_
  refine zif_c (fun h0_ => ?_) (fun h0_ => ?_)
  · refine (Q_iconst (v := 0) zm_2 (Or.inl (by decide)) D2_50 (by decide)).trans ?_
    refine (Q_istore_n (ls' := [some (.ref 102), some (.int (0 : Int32))]) zm_2 (Or.inl (by decide)) D2_51 rfl (Nat.le_of_ble_eq_true rfl) rfl).trans ?_
    rfl
  · refine (Q_aload_n zm_2 (Or.inl (by decide)) D2_39 rfl).trans ?_
    exact Q_callv (as := []) (b := 102) (rest := []) zm_2 (Or.inl (by decide)) D2_40 zc_0_66 rfl zk_102.1 (by decide) (by decide +kernel) (by decide) (by simp [zcat, Value.category]) zm_7 rfl

theorem b2_104 {d : Nat} {i1 : Int32} {ia : Nat → Nat → Int32} {la : Nat → Nat → Int64} {pl dr : Nat} {cp : Nat} {cw : Nat} {rp : Option Nat} {K : Option Value → zHP → Prop}  : zWP d 2 104 [some (.ref 102), some (.int i1)] [] (ia, la, zRA pl dr (some cp) (some cw) rp) K = zWP d 2 52 [some (.ref 102), some (.int (i1 + (1 : Int32)))] [] (ia, la, zRA pl dr (some cp) (some cw) rp) K := by
  refine (Q_iinc (v := 1) (ls' := [some (.ref 102), some (.int (i1 + (1 : Int32)))]) zm_2 (Or.inl (by decide)) D2_104 rfl rfl (by decide) rfl).trans ?_
  refine (Q_goto (tgt := 52) zm_2 (Or.inl (by decide)) D2_107 (by decide)).trans ?_
  rfl

theorem b2_43 {d : Nat} {i1 : Int32} {s0 : Int32} {ia : Nat → Nat → Int32} {la : Nat → Nat → Int64} {pl dr : Nat} {cp : Nat} {cw : Nat} {rp : Option Nat} {K : Option Value → zHP → Prop}  : zWP (d + 1) 2 43 [some (.ref 102), some (.int i1)] [.int s0] (ia, la, zRA pl dr (some cp) (some cw) rp) K = (if s0 = 0 then zWP (d + 1) 2 52 [some (.ref 102), some (.int (0 : Int32))] [] (ia, la, zRA pl dr (some cp) (some cw) rp) K else zWM d 8 [.ref 102] (ia, la, zRA pl dr (some cp) (some cw) rp) (zK (d + 1) 2 50 [some (.ref 102), some (.int i1)] [] K)) := by
  refine (Q_if_eq (tgt := 50) zm_2 (Or.inl (by decide)) D2_43 (by decide)).trans ?_
  refine zif_c (fun h0_ => ?_) (fun h0_ => ?_)
  · refine (Q_iconst (v := 0) zm_2 (Or.inl (by decide)) D2_50 (by decide)).trans ?_
    refine (Q_istore_n (ls' := [some (.ref 102), some (.int (0 : Int32))]) zm_2 (Or.inl (by decide)) D2_51 rfl (Nat.le_of_ble_eq_true rfl) rfl).trans ?_
    rfl
  · refine (Q_aload_n zm_2 (Or.inl (by decide)) D2_46 rfl).trans ?_
    exact Q_callv (as := []) (b := 102) (rest := []) zm_2 (Or.inl (by decide)) D2_47 zc_0_70 rfl zk_102.1 (by decide) (by decide +kernel) (by decide) (by simp [zcat, Value.category]) zm_8 rfl

theorem b2_50 {d : Nat} {a1 : Option Value} {ia : Nat → Nat → Int32} {la : Nat → Nat → Int64} {pl dr : Nat} {cp : Nat} {cw : Nat} {rp : Option Nat} {K : Option Value → zHP → Prop}  : zWP d 2 50 [some (.ref 102), a1] [] (ia, la, zRA pl dr (some cp) (some cw) rp) K = zWP d 2 52 [some (.ref 102), some (.int (0 : Int32))] [] (ia, la, zRA pl dr (some cp) (some cw) rp) K := by
  refine (Q_iconst (v := 0) zm_2 (Or.inl (by decide)) D2_50 (by decide)).trans ?_
  refine (Q_istore_n (ls' := [some (.ref 102), some (.int (0 : Int32))]) zm_2 (Or.inl (by decide)) D2_51 rfl (Nat.le_of_ble_eq_true rfl) rfl).trans ?_
  rfl

/-! HandsLet$Course.playLeases()V -/
theorem D3_0 : decode prog_2_method_5_code 0 = .ok (.iconst 0, 1) := by decide +kernel
theorem D3_1 : decode prog_2_method_5_code 1 = .ok (.istore_n 1, 1) := by decide +kernel
theorem D3_2 : decode prog_2_method_5_code 2 = .ok (.iload_n 1, 1) := by decide +kernel
theorem D3_3 : decode prog_2_method_5_code 3 = .ok (.aload_n 0, 1) := by decide +kernel
theorem D3_4 : decode prog_2_method_5_code 4 = .ok (.getfield 18, 3) := by decide +kernel
theorem D3_7 : decode prog_2_method_5_code 7 = .ok (.getfield 87, 3) := by decide +kernel
theorem D3_10 : decode prog_2_method_5_code 10 = .ok (.if_icmp .ge 112, 3) := by decide +kernel
theorem D3_13 : decode prog_2_method_5_code 13 = .ok (.aload_n 0, 1) := by decide +kernel
theorem D3_14 : decode prog_2_method_5_code 14 = .ok (.getfield 18, 3) := by decide +kernel
theorem D3_17 : decode prog_2_method_5_code 17 = .ok (.getfield 90, 3) := by decide +kernel
theorem D3_20 : decode prog_2_method_5_code 20 = .ok (.iload_n 1, 1) := by decide +kernel
theorem D3_21 : decode prog_2_method_5_code 21 = .ok (.aaload, 1) := by decide +kernel
theorem D3_22 : decode prog_2_method_5_code 22 = .ok (.astore_n 2, 1) := by decide +kernel
theorem D3_23 : decode prog_2_method_5_code 23 = .ok (.aload_n 2, 1) := by decide +kernel
theorem D3_24 : decode prog_2_method_5_code 24 = .ok (.iconst 0, 1) := by decide +kernel
theorem D3_25 : decode prog_2_method_5_code 25 = .ok (.iaload, 1) := by decide +kernel
theorem D3_26 : decode prog_2_method_5_code 26 = .ok (.istore_n 3, 1) := by decide +kernel
theorem D3_27 : decode prog_2_method_5_code 27 = .ok (.aload_n 2, 1) := by decide +kernel
theorem D3_28 : decode prog_2_method_5_code 28 = .ok (.iconst 1, 1) := by decide +kernel
theorem D3_29 : decode prog_2_method_5_code 29 = .ok (.iaload, 1) := by decide +kernel
theorem D3_30 : decode prog_2_method_5_code 30 = .ok (.istore 4, 2) := by decide +kernel
theorem D3_32 : decode prog_2_method_5_code 32 = .ok (.aload_n 2, 1) := by decide +kernel
theorem D3_33 : decode prog_2_method_5_code 33 = .ok (.iconst 2, 1) := by decide +kernel
theorem D3_34 : decode prog_2_method_5_code 34 = .ok (.iaload, 1) := by decide +kernel
theorem D3_35 : decode prog_2_method_5_code 35 = .ok (.aload_n 0, 1) := by decide +kernel
theorem D3_36 : decode prog_2_method_5_code 36 = .ok (.getfield 22, 3) := by decide +kernel
theorem D3_39 : decode prog_2_method_5_code 39 = .ok (.getfield 52, 3) := by decide +kernel
theorem D3_42 : decode prog_2_method_5_code 42 = .ok (.if_icmp .ne 74, 3) := by decide +kernel
theorem D3_45 : decode prog_2_method_5_code 45 = .ok (.iload 4, 2) := by decide +kernel
theorem D3_47 : decode prog_2_method_5_code 47 = .ok (.aload_n 0, 1) := by decide +kernel
theorem D3_48 : decode prog_2_method_5_code 48 = .ok (.getfield 39, 3) := by decide +kernel
theorem D3_51 : decode prog_2_method_5_code 51 = .ok (.if_icmp .ne 6, 3) := by decide +kernel
theorem D3_54 : decode prog_2_method_5_code 54 = .ok (.goto 62, 3) := by decide +kernel
theorem D3_57 : decode prog_2_method_5_code 57 = .ok (.aload_n 0, 1) := by decide +kernel
theorem D3_58 : decode prog_2_method_5_code 58 = .ok (.iconst 0, 1) := by decide +kernel
theorem D3_59 : decode prog_2_method_5_code 59 = .ok (.iload_n 3, 1) := by decide +kernel
theorem D3_60 : decode prog_2_method_5_code 60 = .ok (.iload 4, 2) := by decide +kernel
theorem D3_62 : decode prog_2_method_5_code 62 = .ok (.aload_n 2, 1) := by decide +kernel
theorem D3_63 : decode prog_2_method_5_code 63 = .ok (.iconst 4, 1) := by decide +kernel
theorem D3_64 : decode prog_2_method_5_code 64 = .ok (.iaload, 1) := by decide +kernel
theorem D3_65 : decode prog_2_method_5_code 65 = .ok (.invokevirtual 94, 3) := by decide +kernel
theorem D3_68 : decode prog_2_method_5_code 68 = .ok (.istore 5, 2) := by decide +kernel
theorem D3_70 : decode prog_2_method_5_code 70 = .ok (.aload_n 0, 1) := by decide +kernel
theorem D3_71 : decode prog_2_method_5_code 71 = .ok (.getfield 22, 3) := by decide +kernel
theorem D3_74 : decode prog_2_method_5_code 74 = .ok (.iload_n 3, 1) := by decide +kernel
theorem D3_75 : decode prog_2_method_5_code 75 = .ok (.iload 4, 2) := by decide +kernel
theorem D3_77 : decode prog_2_method_5_code 77 = .ok (.iload 5, 2) := by decide +kernel
theorem D3_79 : decode prog_2_method_5_code 79 = .ok (.invokevirtual 98, 3) := by decide +kernel
theorem D3_82 : decode prog_2_method_5_code 82 = .ok (.ifCond .eq 21, 3) := by decide +kernel
theorem D3_85 : decode prog_2_method_5_code 85 = .ok (.aload_n 0, 1) := by decide +kernel
theorem D3_86 : decode prog_2_method_5_code 86 = .ok (.getfield 22, 3) := by decide +kernel
theorem D3_89 : decode prog_2_method_5_code 89 = .ok (.iload_n 3, 1) := by decide +kernel
theorem D3_90 : decode prog_2_method_5_code 90 = .ok (.iload 4, 2) := by decide +kernel
theorem D3_92 : decode prog_2_method_5_code 92 = .ok (.aload_n 2, 1) := by decide +kernel
theorem D3_93 : decode prog_2_method_5_code 93 = .ok (.iconst 3, 1) := by decide +kernel
theorem D3_94 : decode prog_2_method_5_code 94 = .ok (.iaload, 1) := by decide +kernel
theorem D3_95 : decode prog_2_method_5_code 95 = .ok (.iload 5, 2) := by decide +kernel
theorem D3_97 : decode prog_2_method_5_code 97 = .ok (.invokevirtual 102, 3) := by decide +kernel
theorem D3_100 : decode prog_2_method_5_code 100 = .ok (.goto 16, 3) := by decide +kernel
theorem D3_103 : decode prog_2_method_5_code 103 = .ok (.aload_n 0, 1) := by decide +kernel
theorem D3_104 : decode prog_2_method_5_code 104 = .ok (.getfield 22, 3) := by decide +kernel
theorem D3_107 : decode prog_2_method_5_code 107 = .ok (.dup, 1) := by decide +kernel
theorem D3_108 : decode prog_2_method_5_code 108 = .ok (.getfield 106, 3) := by decide +kernel
theorem D3_111 : decode prog_2_method_5_code 111 = .ok (.iconst 1, 1) := by decide +kernel
theorem D3_112 : decode prog_2_method_5_code 112 = .ok (.iadd, 1) := by decide +kernel
theorem D3_113 : decode prog_2_method_5_code 113 = .ok (.putfield 106, 3) := by decide +kernel
theorem D3_116 : decode prog_2_method_5_code 116 = .ok (.iinc 1 1, 3) := by decide +kernel
theorem D3_119 : decode prog_2_method_5_code 119 = .ok (.goto (-117), 3) := by decide +kernel
theorem D3_122 : decode prog_2_method_5_code 122 = .ok (.return_, 1) := by decide +kernel

theorem b3_0 {d : Nat}  {ia : Nat → Nat → Int32} {la : Nat → Nat → Int64} {pl dr : Nat} {cp : Nat} {cw : Nat} {rp : Option Nat} {K : Option Value → zHP → Prop}  : zWP d 3 0 [some (.ref 102), none, none, none, none, none] [] (ia, la, zRA pl dr (some cp) (some cw) rp) K = zWP d 3 2 [some (.ref 102), some (.int (0 : Int32)), none, none, none, none] [] (ia, la, zRA pl dr (some cp) (some cw) rp) K := by
  refine (Q_iconst (v := 0) zm_3 (Or.inl (by decide)) D3_0 (by decide)).trans ?_
  refine (Q_istore_n (ls' := [some (.ref 102), some (.int (0 : Int32)), none, none, none, none]) zm_3 (Or.inl (by decide)) D3_1 rfl (Nat.le_of_ble_eq_true rfl) rfl).trans ?_
  rfl

theorem b3_2 {d : Nat} {i1 : Int32} {a2 : Option Value} {a3 : Option Value} {a4 : Option Value} {a5 : Option Value} {ia : Nat → Nat → Int32} {la : Nat → Nat → Int64} {pl dr : Nat} {cp : Nat} {cw : Nat} {rp : Option Nat} {K : Option Value → zHP → Prop} (hcp : zIsP cp) (hcw : zIsW cw) : zWP (d + 1) 3 2 [some (.ref 102), some (.int i1), a2, a3, a4, a5] [] (ia, la, zRA pl dr (some cp) (some cw) rp) K = (if (ia cp 2) ≤ i1 then K none (ia, la, zRA pl dr (some cp) (some cw) rp) else (vp_in i1 10 ∧ (if ¬ (ia (cp + 5 + (i1).toNatClampNeg) 2) = (ia cw 0) then zWP (d + 1) 3 2 [some (.ref 102), some (.int (i1 + (1 : Int32))), some (.ref (cp + 5 + (i1).toNatClampNeg)), some (.int (ia (cp + 5 + (i1).toNatClampNeg) 0)), some (.int (ia (cp + 5 + (i1).toNatClampNeg) 1)), a5] [] (ia, la, zRA pl dr (some cp) (some cw) rp) K else (if ¬ (ia (cp + 5 + (i1).toNatClampNeg) 1) = (ia 102 5) then zWM d 10 [.ref 102, .int (0 : Int32), .int (ia (cp + 5 + (i1).toNatClampNeg) 0), .int (ia (cp + 5 + (i1).toNatClampNeg) 1), .int (ia (cp + 5 + (i1).toNatClampNeg) 4)] (ia, la, zRA pl dr (some cp) (some cw) rp) (zK (d + 1) 3 68 [some (.ref 102), some (.int i1), some (.ref (cp + 5 + (i1).toNatClampNeg)), some (.int (ia (cp + 5 + (i1).toNatClampNeg) 0)), some (.int (ia (cp + 5 + (i1).toNatClampNeg) 1)), a5] [] K) else zWP (d + 1) 3 2 [some (.ref 102), some (.int (i1 + (1 : Int32))), some (.ref (cp + 5 + (i1).toNatClampNeg)), some (.int (ia (cp + 5 + (i1).toNatClampNeg) 0)), some (.int (ia (cp + 5 + (i1).toNatClampNeg) 1)), a5] [] (ia, la, zRA pl dr (some cp) (some cw) rp) K)))) := by
  refine (Q_iload_n zm_3 (Or.inl (by decide)) D3_2 rfl).trans ?_
  refine (Q_aload_n zm_3 (Or.inl (by decide)) D3_3 rfl).trans ?_
  refine (Q_getR (q := cp) zm_3 (Or.inl (by decide)) D3_4 zf_0_18 zs_0_1 zk_102.1 rfl).trans ?_
  refine (Q_getI zm_3 (Or.inl (by decide)) D3_7 zf_0_87 (Or.inl zs_3_2) (zkp_0 hcp).1).trans ?_
  refine (Q_ic_ge (tgt := 122) zm_3 (Or.inl (by decide)) D3_10 (by decide)).trans ?_
  refine zif_c (fun h0_ => ?_) (fun h0_ => ?_)
  · exact Q_return zm_3 (Or.inl (by decide)) D3_122 rfl
  · refine (Q_aload_n zm_3 (Or.inl (by decide)) D3_13 rfl).trans ?_
    refine (Q_getR (q := cp) zm_3 (Or.inl (by decide)) D3_14 zf_0_18 zs_0_1 zk_102.1 rfl).trans ?_
    refine (Q_getR (q := (cp + 4)) zm_3 (Or.inl (by decide)) D3_17 zf_0_90 zs_3_8 (zkp_0 hcp).1 (zrp_8 hcp)).trans ?_
    refine (Q_iload_n zm_3 (Or.inl (by decide)) D3_20 rfl).trans ?_
    refine (Q_aaload (f := (fun j => cp + 5 + j)) zm_3 (Or.inl (by decide)) D3_21 (zkp_4 hcp).1 (zkp_4 hcp).2 (zrow_l (pl := pl) (dr := dr) (cp := (some cp)) (cw := (some cw)) (rp := rp) hcp)).trans ?_
    refine zand_c (fun h1_ => ?_)
    refine (Q_astore_n (ls' := [some (.ref 102), some (.int i1), some (.ref (cp + 5 + (i1).toNatClampNeg)), a3, a4, a5]) zm_3 (Or.inl (by decide)) D3_22 rfl (Nat.le_of_ble_eq_true rfl) rfl).trans ?_
    refine (Q_aload_n zm_3 (Or.inl (by decide)) D3_23 rfl).trans ?_
    refine (Q_iconst (v := 0) zm_3 (Or.inl (by decide)) D3_24 (by decide)).trans ?_
    refine ((Q_iaload zm_3 (Or.inl (by decide)) D3_25 (zkrow_l hcp h1_).1 (zkrow_l hcp h1_).2).trans (zdrop (zin_spec (by decide)))).trans ?_
    refine (Q_istore_n (ls' := [some (.ref 102), some (.int i1), some (.ref (cp + 5 + (i1).toNatClampNeg)), some (.int (ia (cp + 5 + (i1).toNatClampNeg) 0)), a4, a5]) zm_3 (Or.inl (by decide)) D3_26 rfl (Nat.le_of_ble_eq_true rfl) rfl).trans ?_
    refine (Q_aload_n zm_3 (Or.inl (by decide)) D3_27 rfl).trans ?_
    refine (Q_iconst (v := 1) zm_3 (Or.inl (by decide)) D3_28 (by decide)).trans ?_
    refine ((Q_iaload zm_3 (Or.inl (by decide)) D3_29 (zkrow_l hcp h1_).1 (zkrow_l hcp h1_).2).trans (zdrop (zin_spec (by decide)))).trans ?_
    refine (Q_istore (ls' := [some (.ref 102), some (.int i1), some (.ref (cp + 5 + (i1).toNatClampNeg)), some (.int (ia (cp + 5 + (i1).toNatClampNeg) 0)), some (.int (ia (cp + 5 + (i1).toNatClampNeg) 1)), a5]) zm_3 (Or.inl (by decide)) D3_30 rfl (Nat.le_of_ble_eq_true rfl) rfl).trans ?_
    refine (Q_aload_n zm_3 (Or.inl (by decide)) D3_32 rfl).trans ?_
    refine (Q_iconst (v := 2) zm_3 (Or.inl (by decide)) D3_33 (by decide)).trans ?_
    refine ((Q_iaload zm_3 (Or.inl (by decide)) D3_34 (zkrow_l hcp h1_).1 (zkrow_l hcp h1_).2).trans (zdrop (zin_spec (by decide)))).trans ?_
    refine (Q_aload_n zm_3 (Or.inl (by decide)) D3_35 rfl).trans ?_
    refine (Q_getR (q := cw) zm_3 (Or.inl (by decide)) D3_36 zf_0_22 zs_0_2 zk_102.1 rfl).trans ?_
    refine (Q_getI zm_3 (Or.inl (by decide)) D3_39 zf_0_52 (Or.inl zs_8_0) (zkw_0 hcw).1).trans ?_
    refine (Q_ic_ne (tgt := 116) zm_3 (Or.inl (by decide)) D3_42 (by decide)).trans ?_
    refine zif_c (fun h2_ => ?_) (fun h2_ => ?_)
    · refine (Q_iinc (v := 1) (ls' := [some (.ref 102), some (.int (i1 + (1 : Int32))), some (.ref (cp + 5 + (i1).toNatClampNeg)), some (.int (ia (cp + 5 + (i1).toNatClampNeg) 0)), some (.int (ia (cp + 5 + (i1).toNatClampNeg) 1)), a5]) zm_3 (Or.inl (by decide)) D3_116 rfl rfl (by decide) rfl).trans ?_
      refine (Q_goto (tgt := 2) zm_3 (Or.inl (by decide)) D3_119 (by decide)).trans ?_
      rfl
    · refine (Q_iload zm_3 (Or.inl (by decide)) D3_45 rfl).trans ?_
      refine (Q_aload_n zm_3 (Or.inl (by decide)) D3_47 rfl).trans ?_
      refine (Q_getI zm_3 (Or.inl (by decide)) D3_48 zf_0_39 (Or.inl zs_0_5) zk_102.1).trans ?_
      refine (Q_ic_ne (tgt := 57) zm_3 (Or.inl (by decide)) D3_51 (by decide)).trans ?_
      refine zif_c (fun h3_ => ?_) (fun h3_ => ?_)
      · refine (Q_aload_n zm_3 (Or.inl (by decide)) D3_57 rfl).trans ?_
        refine (Q_iconst (v := 0) zm_3 (Or.inl (by decide)) D3_58 (by decide)).trans ?_
        refine (Q_iload_n zm_3 (Or.inl (by decide)) D3_59 rfl).trans ?_
        refine (Q_iload zm_3 (Or.inl (by decide)) D3_60 rfl).trans ?_
        refine (Q_aload_n zm_3 (Or.inl (by decide)) D3_62 rfl).trans ?_
        refine (Q_iconst (v := 4) zm_3 (Or.inl (by decide)) D3_63 (by decide)).trans ?_
        refine ((Q_iaload zm_3 (Or.inl (by decide)) D3_64 (zkrow_l hcp h1_).1 (zkrow_l hcp h1_).2).trans (zdrop (zin_spec (by decide)))).trans ?_
        exact Q_callv (as := [.int (0 : Int32), .int (ia (cp + 5 + (i1).toNatClampNeg) 0), .int (ia (cp + 5 + (i1).toNatClampNeg) 1), .int (ia (cp + 5 + (i1).toNatClampNeg) 4)]) (b := 102) (rest := []) zm_3 (Or.inl (by decide)) D3_65 zc_0_94 rfl zk_102.1 (by decide) (by decide +kernel) (by decide) (by simp [zcat, Value.category]) zm_10 rfl
      · refine (Q_goto (tgt := 116) zm_3 (Or.inl (by decide)) D3_54 (by decide)).trans ?_
        refine (Q_iinc (v := 1) (ls' := [some (.ref 102), some (.int (i1 + (1 : Int32))), some (.ref (cp + 5 + (i1).toNatClampNeg)), some (.int (ia (cp + 5 + (i1).toNatClampNeg) 0)), some (.int (ia (cp + 5 + (i1).toNatClampNeg) 1)), a5]) zm_3 (Or.inl (by decide)) D3_116 rfl rfl (by decide) rfl).trans ?_
        refine (Q_goto (tgt := 2) zm_3 (Or.inl (by decide)) D3_119 (by decide)).trans ?_
        rfl

theorem b3_68 {d : Nat} {i1 : Int32} {r2 : Nat} {i3 : Int32} {i4 : Int32} {a5 : Option Value} {s0 : Int32} {ia : Nat → Nat → Int32} {la : Nat → Nat → Int64} {pl dr : Nat} {cp : Nat} {cw : Nat} {rp : Option Nat} {K : Option Value → zHP → Prop} (hcw : zIsW cw) : zWP (d + 1) 3 68 [some (.ref 102), some (.int i1), some (.ref r2), some (.int i3), some (.int i4), a5] [.int s0] (ia, la, zRA pl dr (some cp) (some cw) rp) K = zWM d 71 [.ref cw, .int i3, .int i4, .int s0] (ia, la, zRA pl dr (some cp) (some cw) rp) (zK (d + 1) 3 82 [some (.ref 102), some (.int i1), some (.ref r2), some (.int i3), some (.int i4), some (.int s0)] [] K) := by
  refine (Q_istore (ls' := [some (.ref 102), some (.int i1), some (.ref r2), some (.int i3), some (.int i4), some (.int s0)]) zm_3 (Or.inl (by decide)) D3_68 rfl (Nat.le_of_ble_eq_true rfl) rfl).trans ?_
  refine (Q_aload_n zm_3 (Or.inl (by decide)) D3_70 rfl).trans ?_
  refine (Q_getR (q := cw) zm_3 (Or.inl (by decide)) D3_71 zf_0_22 zs_0_2 zk_102.1 rfl).trans ?_
  refine (Q_iload_n zm_3 (Or.inl (by decide)) D3_74 rfl).trans ?_
  refine (Q_iload zm_3 (Or.inl (by decide)) D3_75 rfl).trans ?_
  refine (Q_iload zm_3 (Or.inl (by decide)) D3_77 rfl).trans ?_
  exact Q_callv (as := [.int i3, .int i4, .int s0]) (b := cw) (rest := []) zm_3 (Or.inl (by decide)) D3_79 zc_0_98 rfl (zkw_0 hcw).1 (by decide) (by decide +kernel) (by decide) (by simp [zcat, Value.category]) zm_71 rfl

theorem b3_82 {d : Nat} {i1 : Int32} {r2 : Nat} {i3 : Int32} {i4 : Int32} {i5 : Int32} {s0 : Int32} {ia : Nat → Nat → Int32} {la : Nat → Nat → Int64} {pl dr : Nat} {cp : Nat} {cw : Nat} {rp : Option Nat} {K : Option Value → zHP → Prop} (hcw : zIsW cw) : zWP (d + 1) 3 82 [some (.ref 102), some (.int i1), some (.ref r2), some (.int i3), some (.int i4), some (.int i5)] [.int s0] (ia, la, zRA pl dr (some cp) (some cw) rp) K = (if s0 = 0 then zWP (d + 1) 3 2 [some (.ref 102), some (.int (i1 + (1 : Int32))), some (.ref r2), some (.int i3), some (.int i4), some (.int i5)] [] ((zu ia cw 14 ((ia cw 14) + (1 : Int32))), la, zRA pl dr (some cp) (some cw) rp) K else ((zkd r2 = 100 ∧ vp_in (3 : Int32) (zln r2)) ∧ zWM d 72 [.ref cw, .int i3, .int i4, .int (ia r2 3), .int i5] (ia, la, zRA pl dr (some cp) (some cw) rp) (zK (d + 1) 3 100 [some (.ref 102), some (.int i1), some (.ref r2), some (.int i3), some (.int i4), some (.int i5)] [] K))) := by
  refine (Q_if_eq (tgt := 103) zm_3 (Or.inl (by decide)) D3_82 (by decide)).trans ?_
  refine zif_c (fun h0_ => ?_) (fun h0_ => ?_)
  · refine (Q_aload_n zm_3 (Or.inl (by decide)) D3_103 rfl).trans ?_
    refine (Q_getR (q := cw) zm_3 (Or.inl (by decide)) D3_104 zf_0_22 zs_0_2 zk_102.1 rfl).trans ?_
    refine (Q_dup zm_3 (Or.inl (by decide)) D3_107 rfl).trans ?_
    refine (Q_getI zm_3 (Or.inl (by decide)) D3_108 zf_0_106 (Or.inl zs_8_14) (zkw_0 hcw).1).trans ?_
    refine (Q_iconst (v := 1) zm_3 (Or.inl (by decide)) D3_111 (by decide)).trans ?_
    refine (Q_iadd zm_3 (Or.inl (by decide)) D3_112).trans ?_
    refine (Q_putI zm_3 (Or.inl (by decide)) D3_113 zf_0_106 zs_8_14 rfl (zkw_0 hcw).1).trans ?_
    refine (Q_iinc (v := 1) (ls' := [some (.ref 102), some (.int (i1 + (1 : Int32))), some (.ref r2), some (.int i3), some (.int i4), some (.int i5)]) zm_3 (Or.inl (by decide)) D3_116 rfl rfl (by decide) rfl).trans ?_
    refine (Q_goto (tgt := 2) zm_3 (Or.inl (by decide)) D3_119 (by decide)).trans ?_
    rfl
  · refine (Q_aload_n zm_3 (Or.inl (by decide)) D3_85 rfl).trans ?_
    refine (Q_getR (q := cw) zm_3 (Or.inl (by decide)) D3_86 zf_0_22 zs_0_2 zk_102.1 rfl).trans ?_
    refine (Q_iload_n zm_3 (Or.inl (by decide)) D3_89 rfl).trans ?_
    refine (Q_iload zm_3 (Or.inl (by decide)) D3_90 rfl).trans ?_
    refine (Q_aload_n zm_3 (Or.inl (by decide)) D3_92 rfl).trans ?_
    refine (Q_iconst (v := 3) zm_3 (Or.inl (by decide)) D3_93 (by decide)).trans ?_
    refine (Q_ialoadV zm_3 (Or.inl (by decide)) D3_94 (by decide)).trans ?_
    refine zand_c (fun h1_ => ?_)
    refine (Q_iload zm_3 (Or.inl (by decide)) D3_95 rfl).trans ?_
    exact Q_callv (as := [.int i3, .int i4, .int (ia r2 3), .int i5]) (b := cw) (rest := []) zm_3 (Or.inl (by decide)) D3_97 zc_0_102 rfl (zkw_0 hcw).1 (by decide) (by decide +kernel) (by decide) (by simp [zcat, Value.category]) zm_72 rfl

theorem b3_100 {d : Nat} {i1 : Int32} {r2 : Nat} {i3 : Int32} {i4 : Int32} {i5 : Int32} {ia : Nat → Nat → Int32} {la : Nat → Nat → Int64} {pl dr : Nat} {cp : Nat} {cw : Nat} {rp : Option Nat} {K : Option Value → zHP → Prop}  : zWP d 3 100 [some (.ref 102), some (.int i1), some (.ref r2), some (.int i3), some (.int i4), some (.int i5)] [] (ia, la, zRA pl dr (some cp) (some cw) rp) K = zWP d 3 2 [some (.ref 102), some (.int (i1 + (1 : Int32))), some (.ref r2), some (.int i3), some (.int i4), some (.int i5)] [] (ia, la, zRA pl dr (some cp) (some cw) rp) K := by
  refine (Q_goto (tgt := 116) zm_3 (Or.inl (by decide)) D3_100 (by decide)).trans ?_
  refine (Q_iinc (v := 1) (ls' := [some (.ref 102), some (.int (i1 + (1 : Int32))), some (.ref r2), some (.int i3), some (.int i4), some (.int i5)]) zm_3 (Or.inl (by decide)) D3_116 rfl rfl (by decide) rfl).trans ?_
  refine (Q_goto (tgt := 2) zm_3 (Or.inl (by decide)) D3_119 (by decide)).trans ?_
  rfl

/-! HandsLet$Course.playLetters()V -/
theorem D4_0 : decode prog_2_method_6_code 0 = .ok (.iconst 0, 1) := by decide +kernel
theorem D4_1 : decode prog_2_method_6_code 1 = .ok (.istore_n 1, 1) := by decide +kernel
theorem D4_2 : decode prog_2_method_6_code 2 = .ok (.iload_n 1, 1) := by decide +kernel
theorem D4_3 : decode prog_2_method_6_code 3 = .ok (.aload_n 0, 1) := by decide +kernel
theorem D4_4 : decode prog_2_method_6_code 4 = .ok (.getfield 18, 3) := by decide +kernel
theorem D4_7 : decode prog_2_method_6_code 7 = .ok (.getfield 109, 3) := by decide +kernel
theorem D4_10 : decode prog_2_method_6_code 10 = .ok (.if_icmp .ge 53, 3) := by decide +kernel
theorem D4_13 : decode prog_2_method_6_code 13 = .ok (.aload_n 0, 1) := by decide +kernel
theorem D4_14 : decode prog_2_method_6_code 14 = .ok (.getfield 18, 3) := by decide +kernel
theorem D4_17 : decode prog_2_method_6_code 17 = .ok (.getfield 112, 3) := by decide +kernel
theorem D4_20 : decode prog_2_method_6_code 20 = .ok (.iload_n 1, 1) := by decide +kernel
theorem D4_21 : decode prog_2_method_6_code 21 = .ok (.aaload, 1) := by decide +kernel
theorem D4_22 : decode prog_2_method_6_code 22 = .ok (.astore_n 2, 1) := by decide +kernel
theorem D4_23 : decode prog_2_method_6_code 23 = .ok (.aload_n 2, 1) := by decide +kernel
theorem D4_24 : decode prog_2_method_6_code 24 = .ok (.iconst 2, 1) := by decide +kernel
theorem D4_25 : decode prog_2_method_6_code 25 = .ok (.iaload, 1) := by decide +kernel
theorem D4_26 : decode prog_2_method_6_code 26 = .ok (.aload_n 0, 1) := by decide +kernel
theorem D4_27 : decode prog_2_method_6_code 27 = .ok (.getfield 22, 3) := by decide +kernel
theorem D4_30 : decode prog_2_method_6_code 30 = .ok (.getfield 52, 3) := by decide +kernel
theorem D4_33 : decode prog_2_method_6_code 33 = .ok (.if_icmp .ne 24, 3) := by decide +kernel
theorem D4_36 : decode prog_2_method_6_code 36 = .ok (.aload_n 2, 1) := by decide +kernel
theorem D4_37 : decode prog_2_method_6_code 37 = .ok (.iconst 0, 1) := by decide +kernel
theorem D4_38 : decode prog_2_method_6_code 38 = .ok (.iaload, 1) := by decide +kernel
theorem D4_39 : decode prog_2_method_6_code 39 = .ok (.aload_n 0, 1) := by decide +kernel
theorem D4_40 : decode prog_2_method_6_code 40 = .ok (.getfield 39, 3) := by decide +kernel
theorem D4_43 : decode prog_2_method_6_code 43 = .ok (.if_icmp .eq 14, 3) := by decide +kernel
theorem D4_46 : decode prog_2_method_6_code 46 = .ok (.aload_n 0, 1) := by decide +kernel
theorem D4_47 : decode prog_2_method_6_code 47 = .ok (.iload_n 1, 1) := by decide +kernel
theorem D4_48 : decode prog_2_method_6_code 48 = .ok (.aload_n 2, 1) := by decide +kernel
theorem D4_49 : decode prog_2_method_6_code 49 = .ok (.iconst 0, 1) := by decide +kernel
theorem D4_50 : decode prog_2_method_6_code 50 = .ok (.iaload, 1) := by decide +kernel
theorem D4_51 : decode prog_2_method_6_code 51 = .ok (.aload_n 2, 1) := by decide +kernel
theorem D4_52 : decode prog_2_method_6_code 52 = .ok (.iconst 1, 1) := by decide +kernel
theorem D4_53 : decode prog_2_method_6_code 53 = .ok (.iaload, 1) := by decide +kernel
theorem D4_54 : decode prog_2_method_6_code 54 = .ok (.invokevirtual 115, 3) := by decide +kernel
theorem D4_57 : decode prog_2_method_6_code 57 = .ok (.iinc 1 1, 3) := by decide +kernel
theorem D4_60 : decode prog_2_method_6_code 60 = .ok (.goto (-58), 3) := by decide +kernel
theorem D4_63 : decode prog_2_method_6_code 63 = .ok (.return_, 1) := by decide +kernel

theorem b4_0 {d : Nat}  {ia : Nat → Nat → Int32} {la : Nat → Nat → Int64} {pl dr : Nat} {cp : Nat} {cw : Nat} {rp : Option Nat} {K : Option Value → zHP → Prop}  : zWP d 4 0 [some (.ref 102), none, none] [] (ia, la, zRA pl dr (some cp) (some cw) rp) K = zWP d 4 2 [some (.ref 102), some (.int (0 : Int32)), none] [] (ia, la, zRA pl dr (some cp) (some cw) rp) K := by
  refine (Q_iconst (v := 0) zm_4 (Or.inl (by decide)) D4_0 (by decide)).trans ?_
  refine (Q_istore_n (ls' := [some (.ref 102), some (.int (0 : Int32)), none]) zm_4 (Or.inl (by decide)) D4_1 rfl (Nat.le_of_ble_eq_true rfl) rfl).trans ?_
  rfl

theorem b4_2 {d : Nat} {i1 : Int32} {a2 : Option Value} {ia : Nat → Nat → Int32} {la : Nat → Nat → Int64} {pl dr : Nat} {cp : Nat} {cw : Nat} {rp : Option Nat} {K : Option Value → zHP → Prop} (hcp : zIsP cp) (hcw : zIsW cw) : zWP (d + 1) 4 2 [some (.ref 102), some (.int i1), a2] [] (ia, la, zRA pl dr (some cp) (some cw) rp) K = (if (ia cp 3) ≤ i1 then K none (ia, la, zRA pl dr (some cp) (some cw) rp) else (vp_in i1 12 ∧ (if ¬ (ia (cp + 16 + (i1).toNatClampNeg) 2) = (ia cw 0) then zWP (d + 1) 4 2 [some (.ref 102), some (.int (i1 + (1 : Int32))), some (.ref (cp + 16 + (i1).toNatClampNeg))] [] (ia, la, zRA pl dr (some cp) (some cw) rp) K else (if (ia (cp + 16 + (i1).toNatClampNeg) 0) = (ia 102 5) then zWP (d + 1) 4 2 [some (.ref 102), some (.int (i1 + (1 : Int32))), some (.ref (cp + 16 + (i1).toNatClampNeg))] [] (ia, la, zRA pl dr (some cp) (some cw) rp) K else zWM d 5 [.ref 102, .int i1, .int (ia (cp + 16 + (i1).toNatClampNeg) 0), .int (ia (cp + 16 + (i1).toNatClampNeg) 1)] (ia, la, zRA pl dr (some cp) (some cw) rp) (zK (d + 1) 4 57 [some (.ref 102), some (.int i1), some (.ref (cp + 16 + (i1).toNatClampNeg))] [] K))))) := by
  refine (Q_iload_n zm_4 (Or.inl (by decide)) D4_2 rfl).trans ?_
  refine (Q_aload_n zm_4 (Or.inl (by decide)) D4_3 rfl).trans ?_
  refine (Q_getR (q := cp) zm_4 (Or.inl (by decide)) D4_4 zf_0_18 zs_0_1 zk_102.1 rfl).trans ?_
  refine (Q_getI zm_4 (Or.inl (by decide)) D4_7 zf_0_109 (Or.inl zs_3_3) (zkp_0 hcp).1).trans ?_
  refine (Q_ic_ge (tgt := 63) zm_4 (Or.inl (by decide)) D4_10 (by decide)).trans ?_
  refine zif_c (fun h0_ => ?_) (fun h0_ => ?_)
  · exact Q_return zm_4 (Or.inl (by decide)) D4_63 rfl
  · refine (Q_aload_n zm_4 (Or.inl (by decide)) D4_13 rfl).trans ?_
    refine (Q_getR (q := cp) zm_4 (Or.inl (by decide)) D4_14 zf_0_18 zs_0_1 zk_102.1 rfl).trans ?_
    refine (Q_getR (q := (cp + 15)) zm_4 (Or.inl (by decide)) D4_17 zf_0_112 zs_3_9 (zkp_0 hcp).1 (zrp_9 hcp)).trans ?_
    refine (Q_iload_n zm_4 (Or.inl (by decide)) D4_20 rfl).trans ?_
    refine (Q_aaload (f := (fun j => cp + 16 + j)) zm_4 (Or.inl (by decide)) D4_21 (zkp_15 hcp).1 (zkp_15 hcp).2 (zrow_t (pl := pl) (dr := dr) (cp := (some cp)) (cw := (some cw)) (rp := rp) hcp)).trans ?_
    refine zand_c (fun h1_ => ?_)
    refine (Q_astore_n (ls' := [some (.ref 102), some (.int i1), some (.ref (cp + 16 + (i1).toNatClampNeg))]) zm_4 (Or.inl (by decide)) D4_22 rfl (Nat.le_of_ble_eq_true rfl) rfl).trans ?_
    refine (Q_aload_n zm_4 (Or.inl (by decide)) D4_23 rfl).trans ?_
    refine (Q_iconst (v := 2) zm_4 (Or.inl (by decide)) D4_24 (by decide)).trans ?_
    refine ((Q_iaload zm_4 (Or.inl (by decide)) D4_25 (zkrow_t hcp h1_).1 (zkrow_t hcp h1_).2).trans (zdrop (zin_spec (by decide)))).trans ?_
    refine (Q_aload_n zm_4 (Or.inl (by decide)) D4_26 rfl).trans ?_
    refine (Q_getR (q := cw) zm_4 (Or.inl (by decide)) D4_27 zf_0_22 zs_0_2 zk_102.1 rfl).trans ?_
    refine (Q_getI zm_4 (Or.inl (by decide)) D4_30 zf_0_52 (Or.inl zs_8_0) (zkw_0 hcw).1).trans ?_
    refine (Q_ic_ne (tgt := 57) zm_4 (Or.inl (by decide)) D4_33 (by decide)).trans ?_
    refine zif_c (fun h2_ => ?_) (fun h2_ => ?_)
    · refine (Q_iinc (v := 1) (ls' := [some (.ref 102), some (.int (i1 + (1 : Int32))), some (.ref (cp + 16 + (i1).toNatClampNeg))]) zm_4 (Or.inl (by decide)) D4_57 rfl rfl (by decide) rfl).trans ?_
      refine (Q_goto (tgt := 2) zm_4 (Or.inl (by decide)) D4_60 (by decide)).trans ?_
      rfl
    · refine (Q_aload_n zm_4 (Or.inl (by decide)) D4_36 rfl).trans ?_
      refine (Q_iconst (v := 0) zm_4 (Or.inl (by decide)) D4_37 (by decide)).trans ?_
      refine ((Q_iaload zm_4 (Or.inl (by decide)) D4_38 (zkrow_t hcp h1_).1 (zkrow_t hcp h1_).2).trans (zdrop (zin_spec (by decide)))).trans ?_
      refine (Q_aload_n zm_4 (Or.inl (by decide)) D4_39 rfl).trans ?_
      refine (Q_getI zm_4 (Or.inl (by decide)) D4_40 zf_0_39 (Or.inl zs_0_5) zk_102.1).trans ?_
      refine (Q_ic_eq (tgt := 57) zm_4 (Or.inl (by decide)) D4_43 (by decide)).trans ?_
      refine zif_c (fun h3_ => ?_) (fun h3_ => ?_)
      · refine (Q_iinc (v := 1) (ls' := [some (.ref 102), some (.int (i1 + (1 : Int32))), some (.ref (cp + 16 + (i1).toNatClampNeg))]) zm_4 (Or.inl (by decide)) D4_57 rfl rfl (by decide) rfl).trans ?_
        refine (Q_goto (tgt := 2) zm_4 (Or.inl (by decide)) D4_60 (by decide)).trans ?_
        rfl
      · refine (Q_aload_n zm_4 (Or.inl (by decide)) D4_46 rfl).trans ?_
        refine (Q_iload_n zm_4 (Or.inl (by decide)) D4_47 rfl).trans ?_
        refine (Q_aload_n zm_4 (Or.inl (by decide)) D4_48 rfl).trans ?_
        refine (Q_iconst (v := 0) zm_4 (Or.inl (by decide)) D4_49 (by decide)).trans ?_
        refine ((Q_iaload zm_4 (Or.inl (by decide)) D4_50 (zkrow_t hcp h1_).1 (zkrow_t hcp h1_).2).trans (zdrop (zin_spec (by decide)))).trans ?_
        refine (Q_aload_n zm_4 (Or.inl (by decide)) D4_51 rfl).trans ?_
        refine (Q_iconst (v := 1) zm_4 (Or.inl (by decide)) D4_52 (by decide)).trans ?_
        refine ((Q_iaload zm_4 (Or.inl (by decide)) D4_53 (zkrow_t hcp h1_).1 (zkrow_t hcp h1_).2).trans (zdrop (zin_spec (by decide)))).trans ?_
        exact Q_callv (as := [.int i1, .int (ia (cp + 16 + (i1).toNatClampNeg) 0), .int (ia (cp + 16 + (i1).toNatClampNeg) 1)]) (b := 102) (rest := []) zm_4 (Or.inl (by decide)) D4_54 zc_0_115 rfl zk_102.1 (by decide) (by decide +kernel) (by decide) (by simp [zcat, Value.category]) zm_5 rfl

theorem b4_57 {d : Nat} {i1 : Int32} {r2 : Nat} {ia : Nat → Nat → Int32} {la : Nat → Nat → Int64} {pl dr : Nat} {cp : Nat} {cw : Nat} {rp : Option Nat} {K : Option Value → zHP → Prop}  : zWP d 4 57 [some (.ref 102), some (.int i1), some (.ref r2)] [] (ia, la, zRA pl dr (some cp) (some cw) rp) K = zWP d 4 2 [some (.ref 102), some (.int (i1 + (1 : Int32))), some (.ref r2)] [] (ia, la, zRA pl dr (some cp) (some cw) rp) K := by
  refine (Q_iinc (v := 1) (ls' := [some (.ref 102), some (.int (i1 + (1 : Int32))), some (.ref r2)]) zm_4 (Or.inl (by decide)) D4_57 rfl rfl (by decide) rfl).trans ?_
  refine (Q_goto (tgt := 2) zm_4 (Or.inl (by decide)) D4_60 (by decide)).trans ?_
  rfl

/-! HandsLet$Course.write(III)V -/
theorem D5_0 : decode prog_2_method_7_code 0 = .ok (.aload_n 0, 1) := by decide +kernel
theorem D5_1 : decode prog_2_method_7_code 1 = .ok (.getfield 22, 3) := by decide +kernel
theorem D5_4 : decode prog_2_method_7_code 4 = .ok (.iload_n 3, 1) := by decide +kernel
theorem D5_5 : decode prog_2_method_7_code 5 = .ok (.invokevirtual 119, 3) := by decide +kernel
theorem D5_8 : decode prog_2_method_7_code 8 = .ok (.iload_n 2, 1) := by decide +kernel
theorem D5_9 : decode prog_2_method_7_code 9 = .ok (.if_icmp .ne 7, 3) := by decide +kernel
theorem D5_12 : decode prog_2_method_7_code 12 = .ok (.iconst 1, 1) := by decide +kernel
theorem D5_13 : decode prog_2_method_7_code 13 = .ok (.goto 4, 3) := by decide +kernel
theorem D5_16 : decode prog_2_method_7_code 16 = .ok (.iconst 0, 1) := by decide +kernel
theorem D5_17 : decode prog_2_method_7_code 17 = .ok (.istore 4, 2) := by decide +kernel
theorem D5_19 : decode prog_2_method_7_code 19 = .ok (.iconst 0, 1) := by decide +kernel
theorem D5_20 : decode prog_2_method_7_code 20 = .ok (.istore 5, 2) := by decide +kernel
theorem D5_22 : decode prog_2_method_7_code 22 = .ok (.iload 5, 2) := by decide +kernel
theorem D5_24 : decode prog_2_method_7_code 24 = .ok (.iconst 3, 1) := by decide +kernel
theorem D5_25 : decode prog_2_method_7_code 25 = .ok (.if_icmp .ge 76, 3) := by decide +kernel
theorem D5_28 : decode prog_2_method_7_code 28 = .ok (.aload_n 0, 1) := by decide +kernel
theorem D5_29 : decode prog_2_method_7_code 29 = .ok (.getfield 22, 3) := by decide +kernel
theorem D5_32 : decode prog_2_method_7_code 32 = .ok (.getfield 123, 3) := by decide +kernel
theorem D5_35 : decode prog_2_method_7_code 35 = .ok (.iload_n 3, 1) := by decide +kernel
theorem D5_36 : decode prog_2_method_7_code 36 = .ok (.iconst 3, 1) := by decide +kernel
theorem D5_37 : decode prog_2_method_7_code 37 = .ok (.imul, 1) := by decide +kernel
theorem D5_38 : decode prog_2_method_7_code 38 = .ok (.iload 5, 2) := by decide +kernel
theorem D5_40 : decode prog_2_method_7_code 40 = .ok (.iadd, 1) := by decide +kernel
theorem D5_41 : decode prog_2_method_7_code 41 = .ok (.iaload, 1) := by decide +kernel
theorem D5_42 : decode prog_2_method_7_code 42 = .ok (.istore 6, 2) := by decide +kernel
theorem D5_44 : decode prog_2_method_7_code 44 = .ok (.iload 4, 2) := by decide +kernel
theorem D5_46 : decode prog_2_method_7_code 46 = .ok (.ifCond .eq 8, 3) := by decide +kernel
theorem D5_49 : decode prog_2_method_7_code 49 = .ok (.iload 6, 2) := by decide +kernel
theorem D5_51 : decode prog_2_method_7_code 51 = .ok (.goto 26, 3) := by decide +kernel
theorem D5_54 : decode prog_2_method_7_code 54 = .ok (.iload 6, 2) := by decide +kernel
theorem D5_56 : decode prog_2_method_7_code 56 = .ok (.sipush 1000, 3) := by decide +kernel
theorem D5_59 : decode prog_2_method_7_code 59 = .ok (.aload_n 0, 1) := by decide +kernel
theorem D5_60 : decode prog_2_method_7_code 60 = .ok (.getfield 18, 3) := by decide +kernel
theorem D5_63 : decode prog_2_method_7_code 63 = .ok (.getfield 126, 3) := by decide +kernel
theorem D5_66 : decode prog_2_method_7_code 66 = .ok (.iload_n 2, 1) := by decide +kernel
theorem D5_67 : decode prog_2_method_7_code 67 = .ok (.iconst 3, 1) := by decide +kernel
theorem D5_68 : decode prog_2_method_7_code 68 = .ok (.imul, 1) := by decide +kernel
theorem D5_69 : decode prog_2_method_7_code 69 = .ok (.iload 5, 2) := by decide +kernel
theorem D5_71 : decode prog_2_method_7_code 71 = .ok (.iadd, 1) := by decide +kernel
theorem D5_72 : decode prog_2_method_7_code 72 = .ok (.iaload, 1) := by decide +kernel
theorem D5_73 : decode prog_2_method_7_code 73 = .ok (.imul, 1) := by decide +kernel
theorem D5_74 : decode prog_2_method_7_code 74 = .ok (.iadd, 1) := by decide +kernel
theorem D5_75 : decode prog_2_method_7_code 75 = .ok (.iconst 2, 1) := by decide +kernel
theorem D5_76 : decode prog_2_method_7_code 76 = .ok (.idiv, 1) := by decide +kernel
theorem D5_77 : decode prog_2_method_7_code 77 = .ok (.istore 7, 2) := by decide +kernel
theorem D5_79 : decode prog_2_method_7_code 79 = .ok (.aload_n 0, 1) := by decide +kernel
theorem D5_80 : decode prog_2_method_7_code 80 = .ok (.getfield 22, 3) := by decide +kernel
theorem D5_83 : decode prog_2_method_7_code 83 = .ok (.getfield 127, 3) := by decide +kernel
theorem D5_86 : decode prog_2_method_7_code 86 = .ok (.iload_n 1, 1) := by decide +kernel
theorem D5_87 : decode prog_2_method_7_code 87 = .ok (.iconst 3, 1) := by decide +kernel
theorem D5_88 : decode prog_2_method_7_code 88 = .ok (.imul, 1) := by decide +kernel
theorem D5_89 : decode prog_2_method_7_code 89 = .ok (.iload 5, 2) := by decide +kernel
theorem D5_91 : decode prog_2_method_7_code 91 = .ok (.iadd, 1) := by decide +kernel
theorem D5_92 : decode prog_2_method_7_code 92 = .ok (.iload 7, 2) := by decide +kernel
theorem D5_94 : decode prog_2_method_7_code 94 = .ok (.iastore, 1) := by decide +kernel
theorem D5_95 : decode prog_2_method_7_code 95 = .ok (.iinc 5 1, 3) := by decide +kernel
theorem D5_98 : decode prog_2_method_7_code 98 = .ok (.goto (-76), 3) := by decide +kernel
theorem D5_101 : decode prog_2_method_7_code 101 = .ok (.aload_n 0, 1) := by decide +kernel
theorem D5_102 : decode prog_2_method_7_code 102 = .ok (.iload_n 1, 1) := by decide +kernel
theorem D5_103 : decode prog_2_method_7_code 103 = .ok (.invokevirtual 130, 3) := by decide +kernel
theorem D5_106 : decode prog_2_method_7_code 106 = .ok (.ifCond .eq 26, 3) := by decide +kernel
theorem D5_109 : decode prog_2_method_7_code 109 = .ok (.aload_n 0, 1) := by decide +kernel
theorem D5_110 : decode prog_2_method_7_code 110 = .ok (.getfield 22, 3) := by decide +kernel
theorem D5_113 : decode prog_2_method_7_code 113 = .ok (.getfield 133, 3) := by decide +kernel
theorem D5_116 : decode prog_2_method_7_code 116 = .ok (.iload_n 1, 1) := by decide +kernel
theorem D5_117 : decode prog_2_method_7_code 117 = .ok (.iconst 1, 1) := by decide +kernel
theorem D5_118 : decode prog_2_method_7_code 118 = .ok (.iastore, 1) := by decide +kernel
theorem D5_119 : decode prog_2_method_7_code 119 = .ok (.aload_n 0, 1) := by decide +kernel
theorem D5_120 : decode prog_2_method_7_code 120 = .ok (.getfield 22, 3) := by decide +kernel
theorem D5_123 : decode prog_2_method_7_code 123 = .ok (.dup, 1) := by decide +kernel
theorem D5_124 : decode prog_2_method_7_code 124 = .ok (.getfield 136, 3) := by decide +kernel
theorem D5_127 : decode prog_2_method_7_code 127 = .ok (.iconst 1, 1) := by decide +kernel
theorem D5_128 : decode prog_2_method_7_code 128 = .ok (.iadd, 1) := by decide +kernel
theorem D5_129 : decode prog_2_method_7_code 129 = .ok (.putfield 136, 3) := by decide +kernel
theorem D5_132 : decode prog_2_method_7_code 132 = .ok (.aload_n 0, 1) := by decide +kernel
theorem D5_133 : decode prog_2_method_7_code 133 = .ok (.getfield 22, 3) := by decide +kernel
theorem D5_136 : decode prog_2_method_7_code 136 = .ok (.getfield 139, 3) := by decide +kernel
theorem D5_139 : decode prog_2_method_7_code 139 = .ok (.iload_n 1, 1) := by decide +kernel
theorem D5_140 : decode prog_2_method_7_code 140 = .ok (.iload 4, 2) := by decide +kernel
theorem D5_142 : decode prog_2_method_7_code 142 = .ok (.ifCond .eq 7, 3) := by decide +kernel
theorem D5_145 : decode prog_2_method_7_code 145 = .ok (.iconst 1, 1) := by decide +kernel
theorem D5_146 : decode prog_2_method_7_code 146 = .ok (.goto 4, 3) := by decide +kernel
theorem D5_149 : decode prog_2_method_7_code 149 = .ok (.iconst 2, 1) := by decide +kernel
theorem D5_150 : decode prog_2_method_7_code 150 = .ok (.iastore, 1) := by decide +kernel
theorem D5_151 : decode prog_2_method_7_code 151 = .ok (.iload 4, 2) := by decide +kernel
theorem D5_153 : decode prog_2_method_7_code 153 = .ok (.ifCond .ne 16, 3) := by decide +kernel
theorem D5_156 : decode prog_2_method_7_code 156 = .ok (.aload_n 0, 1) := by decide +kernel
theorem D5_157 : decode prog_2_method_7_code 157 = .ok (.getfield 22, 3) := by decide +kernel
theorem D5_160 : decode prog_2_method_7_code 160 = .ok (.dup, 1) := by decide +kernel
theorem D5_161 : decode prog_2_method_7_code 161 = .ok (.getfield 60, 3) := by decide +kernel
theorem D5_164 : decode prog_2_method_7_code 164 = .ok (.iconst 1, 1) := by decide +kernel
theorem D5_165 : decode prog_2_method_7_code 165 = .ok (.iadd, 1) := by decide +kernel
theorem D5_166 : decode prog_2_method_7_code 166 = .ok (.putfield 60, 3) := by decide +kernel
theorem D5_169 : decode prog_2_method_7_code 169 = .ok (.return_, 1) := by decide +kernel

theorem b5_0 {d : Nat} {i1 : Int32} {i2 : Int32} {i3 : Int32} {ia : Nat → Nat → Int32} {la : Nat → Nat → Int64} {pl dr : Nat} {cp : Nat} {cw : Nat} {rp : Option Nat} {K : Option Value → zHP → Prop} (hcw : zIsW cw) : zWP (d + 1) 5 0 [some (.ref 102), some (.int i1), some (.int i2), some (.int i3), none, none, none, none] [] (ia, la, zRA pl dr (some cp) (some cw) rp) K = zWM d 70 [.ref cw, .int i3] (ia, la, zRA pl dr (some cp) (some cw) rp) (zK (d + 1) 5 8 [some (.ref 102), some (.int i1), some (.int i2), some (.int i3), none, none, none, none] [] K) := by
  refine (Q_aload_n zm_5 (Or.inl (by decide)) D5_0 rfl).trans ?_
  refine (Q_getR (q := cw) zm_5 (Or.inl (by decide)) D5_1 zf_0_22 zs_0_2 zk_102.1 rfl).trans ?_
  refine (Q_iload_n zm_5 (Or.inl (by decide)) D5_4 rfl).trans ?_
  exact Q_callv (as := [.int i3]) (b := cw) (rest := []) zm_5 (Or.inl (by decide)) D5_5 zc_0_119 rfl (zkw_0 hcw).1 (by decide) (by decide +kernel) (by decide) (by simp [zcat, Value.category]) zm_70 rfl

theorem b5_8 {d : Nat} {i1 : Int32} {i2 : Int32} {i3 : Int32} {s0 : Int32} {ia : Nat → Nat → Int32} {la : Nat → Nat → Int64} {pl dr : Nat} {cp : Nat} {cw : Nat} {rp : Option Nat} {K : Option Value → zHP → Prop}  : zWP d 5 8 [some (.ref 102), some (.int i1), some (.int i2), some (.int i3), none, none, none, none] [.int s0] (ia, la, zRA pl dr (some cp) (some cw) rp) K = (if ¬ s0 = i2 then zWP d 5 22 [some (.ref 102), some (.int i1), some (.int i2), some (.int i3), some (.int (0 : Int32)), some (.int (0 : Int32)), none, none] [] (ia, la, zRA pl dr (some cp) (some cw) rp) K else zWP d 5 22 [some (.ref 102), some (.int i1), some (.int i2), some (.int i3), some (.int (1 : Int32)), some (.int (0 : Int32)), none, none] [] (ia, la, zRA pl dr (some cp) (some cw) rp) K) := by
  refine (Q_iload_n zm_5 (Or.inl (by decide)) D5_8 rfl).trans ?_
  refine (Q_ic_ne (tgt := 16) zm_5 (Or.inl (by decide)) D5_9 (by decide)).trans ?_
  refine zif_c (fun h0_ => ?_) (fun h0_ => ?_)
  · refine (Q_iconst (v := 0) zm_5 (Or.inl (by decide)) D5_16 (by decide)).trans ?_
    refine (Q_istore (ls' := [some (.ref 102), some (.int i1), some (.int i2), some (.int i3), some (.int (0 : Int32)), none, none, none]) zm_5 (Or.inl (by decide)) D5_17 rfl (Nat.le_of_ble_eq_true rfl) rfl).trans ?_
    refine (Q_iconst (v := 0) zm_5 (Or.inl (by decide)) D5_19 (by decide)).trans ?_
    refine (Q_istore (ls' := [some (.ref 102), some (.int i1), some (.int i2), some (.int i3), some (.int (0 : Int32)), some (.int (0 : Int32)), none, none]) zm_5 (Or.inl (by decide)) D5_20 rfl (Nat.le_of_ble_eq_true rfl) rfl).trans ?_
    rfl
  · refine (Q_iconst (v := 1) zm_5 (Or.inl (by decide)) D5_12 (by decide)).trans ?_
    refine (Q_goto (tgt := 17) zm_5 (Or.inl (by decide)) D5_13 (by decide)).trans ?_
    refine (Q_istore (ls' := [some (.ref 102), some (.int i1), some (.int i2), some (.int i3), some (.int (1 : Int32)), none, none, none]) zm_5 (Or.inl (by decide)) D5_17 rfl (Nat.le_of_ble_eq_true rfl) rfl).trans ?_
    refine (Q_iconst (v := 0) zm_5 (Or.inl (by decide)) D5_19 (by decide)).trans ?_
    refine (Q_istore (ls' := [some (.ref 102), some (.int i1), some (.int i2), some (.int i3), some (.int (1 : Int32)), some (.int (0 : Int32)), none, none]) zm_5 (Or.inl (by decide)) D5_20 rfl (Nat.le_of_ble_eq_true rfl) rfl).trans ?_
    rfl

theorem b5_22 {d : Nat} {i1 : Int32} {i2 : Int32} {i3 : Int32} {i4 : Int32} {i5 : Int32} {a6 : Option Value} {a7 : Option Value} {ia : Nat → Nat → Int32} {la : Nat → Nat → Int64} {pl dr : Nat} {cp : Nat} {cw : Nat} {rp : Option Nat} {K : Option Value → zHP → Prop} (hcp : zIsP cp) (hcw : zIsW cw) : zWP (d + 1) 5 22 [some (.ref 102), some (.int i1), some (.int i2), some (.int i3), some (.int i4), some (.int i5), a6, a7] [] (ia, la, zRA pl dr (some cp) (some cw) rp) K = (if (3 : Int32) ≤ i5 then zWM d 6 [.ref 102, .int i1] (ia, la, zRA pl dr (some cp) (some cw) rp) (zK (d + 1) 5 106 [some (.ref 102), some (.int i1), some (.int i2), some (.int i3), some (.int i4), some (.int i5), a6, a7] [] K) else (vp_in ((i3 * (3 : Int32)) + i5) 18 ∧ (if i4 = 0 then (vp_in ((i2 * (3 : Int32)) + i5) 18 ∧ zWP (d + 1) 5 77 [some (.ref 102), some (.int i1), some (.int i2), some (.int i3), some (.int i4), some (.int i5), some (.int (ia (cw + 2) (((i3 * (3 : Int32)) + i5)).toNatClampNeg)), a7] [.int (((ia (cw + 2) (((i3 * (3 : Int32)) + i5)).toNatClampNeg) + ((1000 : Int32) * (ia (cp + 2) (((i2 * (3 : Int32)) + i5)).toNatClampNeg))) / (2 : Int32))] (ia, la, zRA pl dr (some cp) (some cw) rp) K) else zWP (d + 1) 5 77 [some (.ref 102), some (.int i1), some (.int i2), some (.int i3), some (.int i4), some (.int i5), some (.int (ia (cw + 2) (((i3 * (3 : Int32)) + i5)).toNatClampNeg)), a7] [.int (ia (cw + 2) (((i3 * (3 : Int32)) + i5)).toNatClampNeg)] (ia, la, zRA pl dr (some cp) (some cw) rp) K))) := by
  refine (Q_iload zm_5 (Or.inl (by decide)) D5_22 rfl).trans ?_
  refine (Q_iconst (v := 3) zm_5 (Or.inl (by decide)) D5_24 (by decide)).trans ?_
  refine (Q_ic_ge (tgt := 101) zm_5 (Or.inl (by decide)) D5_25 (by decide)).trans ?_
  refine zif_c (fun h0_ => ?_) (fun h0_ => ?_)
  · refine (Q_aload_n zm_5 (Or.inl (by decide)) D5_101 rfl).trans ?_
    refine (Q_iload_n zm_5 (Or.inl (by decide)) D5_102 rfl).trans ?_
    exact Q_callv (as := [.int i1]) (b := 102) (rest := []) zm_5 (Or.inl (by decide)) D5_103 zc_0_130 rfl zk_102.1 (by decide) (by decide +kernel) (by decide) (by simp [zcat, Value.category]) zm_6 rfl
  · refine (Q_aload_n zm_5 (Or.inl (by decide)) D5_28 rfl).trans ?_
    refine (Q_getR (q := cw) zm_5 (Or.inl (by decide)) D5_29 zf_0_22 zs_0_2 zk_102.1 rfl).trans ?_
    refine (Q_getR (q := (cw + 2)) zm_5 (Or.inl (by decide)) D5_32 zf_0_123 zs_8_3 (zkw_0 hcw).1 (zrw_3 hcw)).trans ?_
    refine (Q_iload_n zm_5 (Or.inl (by decide)) D5_35 rfl).trans ?_
    refine (Q_iconst (v := 3) zm_5 (Or.inl (by decide)) D5_36 (by decide)).trans ?_
    refine (Q_imul zm_5 (Or.inl (by decide)) D5_37).trans ?_
    refine (Q_iload zm_5 (Or.inl (by decide)) D5_38 rfl).trans ?_
    refine (Q_iadd zm_5 (Or.inl (by decide)) D5_40).trans ?_
    refine (Q_iaload zm_5 (Or.inl (by decide)) D5_41 (zkw_2 hcw).1 (zkw_2 hcw).2).trans ?_
    refine zand_c (fun h1_ => ?_)
    refine (Q_istore (ls' := [some (.ref 102), some (.int i1), some (.int i2), some (.int i3), some (.int i4), some (.int i5), some (.int (ia (cw + 2) (((i3 * (3 : Int32)) + i5)).toNatClampNeg)), a7]) zm_5 (Or.inl (by decide)) D5_42 rfl (Nat.le_of_ble_eq_true rfl) rfl).trans ?_
    refine (Q_iload zm_5 (Or.inl (by decide)) D5_44 rfl).trans ?_
    refine (Q_if_eq (tgt := 54) zm_5 (Or.inl (by decide)) D5_46 (by decide)).trans ?_
    refine zif_c (fun h2_ => ?_) (fun h2_ => ?_)
    · refine (Q_iload zm_5 (Or.inl (by decide)) D5_54 rfl).trans ?_
      refine (Q_sipush (v := 1000) zm_5 (Or.inl (by decide)) D5_56 (by decide)).trans ?_
      refine (Q_aload_n zm_5 (Or.inl (by decide)) D5_59 rfl).trans ?_
      refine (Q_getR (q := cp) zm_5 (Or.inl (by decide)) D5_60 zf_0_18 zs_0_1 zk_102.1 rfl).trans ?_
      refine (Q_getR (q := (cp + 2)) zm_5 (Or.inl (by decide)) D5_63 zf_0_126 zs_3_6 (zkp_0 hcp).1 (zrp_6 hcp)).trans ?_
      refine (Q_iload_n zm_5 (Or.inl (by decide)) D5_66 rfl).trans ?_
      refine (Q_iconst (v := 3) zm_5 (Or.inl (by decide)) D5_67 (by decide)).trans ?_
      refine (Q_imul zm_5 (Or.inl (by decide)) D5_68).trans ?_
      refine (Q_iload zm_5 (Or.inl (by decide)) D5_69 rfl).trans ?_
      refine (Q_iadd zm_5 (Or.inl (by decide)) D5_71).trans ?_
      refine (Q_iaload zm_5 (Or.inl (by decide)) D5_72 (zkp_2 hcp).1 (zkp_2 hcp).2).trans ?_
      refine zand_c (fun h3_ => ?_)
      refine (Q_imul zm_5 (Or.inl (by decide)) D5_73).trans ?_
      refine (Q_iadd zm_5 (Or.inl (by decide)) D5_74).trans ?_
      refine (Q_iconst (v := 2) zm_5 (Or.inl (by decide)) D5_75 (by decide)).trans ?_
      refine (Q_idiv zm_5 (Or.inl (by decide)) D5_76 (by decide)).trans ?_
      rfl
    · refine (Q_iload zm_5 (Or.inl (by decide)) D5_49 rfl).trans ?_
      refine (Q_goto (tgt := 77) zm_5 (Or.inl (by decide)) D5_51 (by decide)).trans ?_
      rfl

theorem b5_106 {d : Nat} {i1 : Int32} {i2 : Int32} {i3 : Int32} {i4 : Int32} {i5 : Int32} {a6 : Option Value} {a7 : Option Value} {s0 : Int32} {ia : Nat → Nat → Int32} {la : Nat → Nat → Int64} {pl dr : Nat} {cp : Nat} {cw : Nat} {rp : Option Nat} {K : Option Value → zHP → Prop} (hcw : zIsW cw) : zWP d 5 106 [some (.ref 102), some (.int i1), some (.int i2), some (.int i3), some (.int i4), some (.int i5), a6, a7] [.int s0] (ia, la, zRA pl dr (some cp) (some cw) rp) K = (if s0 = 0 then zWP d 5 132 [some (.ref 102), some (.int i1), some (.int i2), some (.int i3), some (.int i4), some (.int i5), a6, a7] [] (ia, la, zRA pl dr (some cp) (some cw) rp) K else (vp_in i1 12 ∧ zWP d 5 132 [some (.ref 102), some (.int i1), some (.int i2), some (.int i3), some (.int i4), some (.int i5), a6, a7] [] ((zu (zu ia (cw + 7) (i1).toNatClampNeg (1 : Int32)) cw 12 (((zu ia (cw + 7) (i1).toNatClampNeg (1 : Int32)) cw 12) + (1 : Int32))), la, zRA pl dr (some cp) (some cw) rp) K)) := by
  refine (Q_if_eq (tgt := 132) zm_5 (Or.inl (by decide)) D5_106 (by decide)).trans ?_
  refine zif_c (fun h0_ => ?_) (fun h0_ => ?_)
  · rfl
  · refine (Q_aload_n zm_5 (Or.inl (by decide)) D5_109 rfl).trans ?_
    refine (Q_getR (q := cw) zm_5 (Or.inl (by decide)) D5_110 zf_0_22 zs_0_2 zk_102.1 rfl).trans ?_
    refine (Q_getR (q := (cw + 7)) zm_5 (Or.inl (by decide)) D5_113 zf_0_133 zs_8_8 (zkw_0 hcw).1 (zrw_8 hcw)).trans ?_
    refine (Q_iload_n zm_5 (Or.inl (by decide)) D5_116 rfl).trans ?_
    refine (Q_iconst (v := 1) zm_5 (Or.inl (by decide)) D5_117 (by decide)).trans ?_
    refine (Q_iastore zm_5 (Or.inl (by decide)) D5_118 (zkw_7 hcw).1 (zkw_7 hcw).2).trans ?_
    refine zand_c (fun h1_ => ?_)
    refine (Q_aload_n zm_5 (Or.inl (by decide)) D5_119 rfl).trans ?_
    refine (Q_getR (q := cw) zm_5 (Or.inl (by decide)) D5_120 zf_0_22 zs_0_2 zk_102.1 rfl).trans ?_
    refine (Q_dup zm_5 (Or.inl (by decide)) D5_123 rfl).trans ?_
    refine (Q_getI zm_5 (Or.inl (by decide)) D5_124 zf_0_136 (Or.inl zs_8_12) (zkw_0 hcw).1).trans ?_
    refine (Q_iconst (v := 1) zm_5 (Or.inl (by decide)) D5_127 (by decide)).trans ?_
    refine (Q_iadd zm_5 (Or.inl (by decide)) D5_128).trans ?_
    refine (Q_putI zm_5 (Or.inl (by decide)) D5_129 zf_0_136 zs_8_12 rfl (zkw_0 hcw).1).trans ?_
    rfl

theorem b5_77 {d : Nat} {i1 : Int32} {i2 : Int32} {i3 : Int32} {i4 : Int32} {i5 : Int32} {i6 : Int32} {a7 : Option Value} {s0 : Int32} {ia : Nat → Nat → Int32} {la : Nat → Nat → Int64} {pl dr : Nat} {cp : Nat} {cw : Nat} {rp : Option Nat} {K : Option Value → zHP → Prop} (hcw : zIsW cw) : zWP d 5 77 [some (.ref 102), some (.int i1), some (.int i2), some (.int i3), some (.int i4), some (.int i5), some (.int i6), a7] [.int s0] (ia, la, zRA pl dr (some cp) (some cw) rp) K = (vp_in ((i1 * (3 : Int32)) + i5) 36 ∧ zWP d 5 22 [some (.ref 102), some (.int i1), some (.int i2), some (.int i3), some (.int i4), some (.int (i5 + (1 : Int32))), some (.int i6), some (.int s0)] [] ((zu ia (cw + 9) (((i1 * (3 : Int32)) + i5)).toNatClampNeg s0), la, zRA pl dr (some cp) (some cw) rp) K) := by
  refine (Q_istore (ls' := [some (.ref 102), some (.int i1), some (.int i2), some (.int i3), some (.int i4), some (.int i5), some (.int i6), some (.int s0)]) zm_5 (Or.inl (by decide)) D5_77 rfl (Nat.le_of_ble_eq_true rfl) rfl).trans ?_
  refine (Q_aload_n zm_5 (Or.inl (by decide)) D5_79 rfl).trans ?_
  refine (Q_getR (q := cw) zm_5 (Or.inl (by decide)) D5_80 zf_0_22 zs_0_2 zk_102.1 rfl).trans ?_
  refine (Q_getR (q := (cw + 9)) zm_5 (Or.inl (by decide)) D5_83 zf_0_127 zs_8_10 (zkw_0 hcw).1 (zrw_10 hcw)).trans ?_
  refine (Q_iload_n zm_5 (Or.inl (by decide)) D5_86 rfl).trans ?_
  refine (Q_iconst (v := 3) zm_5 (Or.inl (by decide)) D5_87 (by decide)).trans ?_
  refine (Q_imul zm_5 (Or.inl (by decide)) D5_88).trans ?_
  refine (Q_iload zm_5 (Or.inl (by decide)) D5_89 rfl).trans ?_
  refine (Q_iadd zm_5 (Or.inl (by decide)) D5_91).trans ?_
  refine (Q_iload zm_5 (Or.inl (by decide)) D5_92 rfl).trans ?_
  refine (Q_iastore zm_5 (Or.inl (by decide)) D5_94 (zkw_9 hcw).1 (zkw_9 hcw).2).trans ?_
  refine zand_c (fun h0_ => ?_)
  refine (Q_iinc (v := 1) (ls' := [some (.ref 102), some (.int i1), some (.int i2), some (.int i3), some (.int i4), some (.int (i5 + (1 : Int32))), some (.int i6), some (.int s0)]) zm_5 (Or.inl (by decide)) D5_95 rfl rfl (by decide) rfl).trans ?_
  refine (Q_goto (tgt := 22) zm_5 (Or.inl (by decide)) D5_98 (by decide)).trans ?_
  rfl

theorem b5_132 {d : Nat} {i1 : Int32} {i2 : Int32} {i3 : Int32} {i4 : Int32} {i5 : Int32} {a6 : Option Value} {a7 : Option Value} {ia : Nat → Nat → Int32} {la : Nat → Nat → Int64} {pl dr : Nat} {cp : Nat} {cw : Nat} {rp : Option Nat} {K : Option Value → zHP → Prop} (hcw : zIsW cw) : zWP d 5 132 [some (.ref 102), some (.int i1), some (.int i2), some (.int i3), some (.int i4), some (.int i5), a6, a7] [] (ia, la, zRA pl dr (some cp) (some cw) rp) K = (if i4 = 0 then zWP d 5 150 [some (.ref 102), some (.int i1), some (.int i2), some (.int i3), some (.int i4), some (.int i5), a6, a7] [.int (2 : Int32), .int i1, .ref (cw + 6)] (ia, la, zRA pl dr (some cp) (some cw) rp) K else zWP d 5 150 [some (.ref 102), some (.int i1), some (.int i2), some (.int i3), some (.int i4), some (.int i5), a6, a7] [.int (1 : Int32), .int i1, .ref (cw + 6)] (ia, la, zRA pl dr (some cp) (some cw) rp) K) := by
  refine (Q_aload_n zm_5 (Or.inl (by decide)) D5_132 rfl).trans ?_
  refine (Q_getR (q := cw) zm_5 (Or.inl (by decide)) D5_133 zf_0_22 zs_0_2 zk_102.1 rfl).trans ?_
  refine (Q_getR (q := (cw + 6)) zm_5 (Or.inl (by decide)) D5_136 zf_0_139 zs_8_7 (zkw_0 hcw).1 (zrw_7 hcw)).trans ?_
  refine (Q_iload_n zm_5 (Or.inl (by decide)) D5_139 rfl).trans ?_
  refine (Q_iload zm_5 (Or.inl (by decide)) D5_140 rfl).trans ?_
  refine (Q_if_eq (tgt := 149) zm_5 (Or.inl (by decide)) D5_142 (by decide)).trans ?_
  refine zif_c (fun h0_ => ?_) (fun h0_ => ?_)
  · refine (Q_iconst (v := 2) zm_5 (Or.inl (by decide)) D5_149 (by decide)).trans ?_
    rfl
  · refine (Q_iconst (v := 1) zm_5 (Or.inl (by decide)) D5_145 (by decide)).trans ?_
    refine (Q_goto (tgt := 150) zm_5 (Or.inl (by decide)) D5_146 (by decide)).trans ?_
    rfl

theorem b5_150 {d : Nat} {i1 : Int32} {i2 : Int32} {i3 : Int32} {i4 : Int32} {i5 : Int32} {a6 : Option Value} {a7 : Option Value} {s1 : Int32} {s2 : Int32} {ia : Nat → Nat → Int32} {la : Nat → Nat → Int64} {pl dr : Nat} {cp : Nat} {cw : Nat} {rp : Option Nat} {K : Option Value → zHP → Prop} (hcw : zIsW cw) : zWP d 5 150 [some (.ref 102), some (.int i1), some (.int i2), some (.int i3), some (.int i4), some (.int i5), a6, a7] [.int s2, .int s1, .ref (cw + 6)] (ia, la, zRA pl dr (some cp) (some cw) rp) K = (vp_in s1 12 ∧ (if ¬ i4 = 0 then K none ((zu ia (cw + 6) (s1).toNatClampNeg s2), la, zRA pl dr (some cp) (some cw) rp) else K none ((zu (zu ia (cw + 6) (s1).toNatClampNeg s2) cw 11 (((zu ia (cw + 6) (s1).toNatClampNeg s2) cw 11) + (1 : Int32))), la, zRA pl dr (some cp) (some cw) rp))) := by
  refine (Q_iastore zm_5 (Or.inl (by decide)) D5_150 (zkw_6 hcw).1 (zkw_6 hcw).2).trans ?_
  refine zand_c (fun h0_ => ?_)
  refine (Q_iload zm_5 (Or.inl (by decide)) D5_151 rfl).trans ?_
  refine (Q_if_ne (tgt := 169) zm_5 (Or.inl (by decide)) D5_153 (by decide)).trans ?_
  refine zif_c (fun h1_ => ?_) (fun h1_ => ?_)
  · exact Q_return zm_5 (Or.inl (by decide)) D5_169 rfl
  · refine (Q_aload_n zm_5 (Or.inl (by decide)) D5_156 rfl).trans ?_
    refine (Q_getR (q := cw) zm_5 (Or.inl (by decide)) D5_157 zf_0_22 zs_0_2 zk_102.1 rfl).trans ?_
    refine (Q_dup zm_5 (Or.inl (by decide)) D5_160 rfl).trans ?_
    refine (Q_getI zm_5 (Or.inl (by decide)) D5_161 zf_0_60 (Or.inl zs_8_11) (zkw_0 hcw).1).trans ?_
    refine (Q_iconst (v := 1) zm_5 (Or.inl (by decide)) D5_164 (by decide)).trans ?_
    refine (Q_iadd zm_5 (Or.inl (by decide)) D5_165).trans ?_
    refine (Q_putI zm_5 (Or.inl (by decide)) D5_166 zf_0_60 zs_8_11 rfl (zkw_0 hcw).1).trans ?_
    exact Q_return zm_5 (Or.inl (by decide)) D5_169 rfl

/-! HandsLet$Course.clashes(I)Z -/
theorem D6_0 : decode prog_2_method_8_code 0 = .ok (.aload_n 0, 1) := by decide +kernel
theorem D6_1 : decode prog_2_method_8_code 1 = .ok (.getfield 18, 3) := by decide +kernel
theorem D6_4 : decode prog_2_method_8_code 4 = .ok (.getfield 112, 3) := by decide +kernel
theorem D6_7 : decode prog_2_method_8_code 7 = .ok (.iload_n 1, 1) := by decide +kernel
theorem D6_8 : decode prog_2_method_8_code 8 = .ok (.aaload, 1) := by decide +kernel
theorem D6_9 : decode prog_2_method_8_code 9 = .ok (.astore_n 2, 1) := by decide +kernel
theorem D6_10 : decode prog_2_method_8_code 10 = .ok (.iconst 0, 1) := by decide +kernel
theorem D6_11 : decode prog_2_method_8_code 11 = .ok (.istore_n 3, 1) := by decide +kernel
theorem D6_12 : decode prog_2_method_8_code 12 = .ok (.iload_n 3, 1) := by decide +kernel
theorem D6_13 : decode prog_2_method_8_code 13 = .ok (.iload_n 1, 1) := by decide +kernel
theorem D6_14 : decode prog_2_method_8_code 14 = .ok (.if_icmp .ge 54, 3) := by decide +kernel
theorem D6_17 : decode prog_2_method_8_code 17 = .ok (.aload_n 0, 1) := by decide +kernel
theorem D6_18 : decode prog_2_method_8_code 18 = .ok (.getfield 18, 3) := by decide +kernel
theorem D6_21 : decode prog_2_method_8_code 21 = .ok (.getfield 112, 3) := by decide +kernel
theorem D6_24 : decode prog_2_method_8_code 24 = .ok (.iload_n 3, 1) := by decide +kernel
theorem D6_25 : decode prog_2_method_8_code 25 = .ok (.aaload, 1) := by decide +kernel
theorem D6_26 : decode prog_2_method_8_code 26 = .ok (.astore 4, 2) := by decide +kernel
theorem D6_28 : decode prog_2_method_8_code 28 = .ok (.aload 4, 2) := by decide +kernel
theorem D6_30 : decode prog_2_method_8_code 30 = .ok (.iconst 1, 1) := by decide +kernel
theorem D6_31 : decode prog_2_method_8_code 31 = .ok (.iaload, 1) := by decide +kernel
theorem D6_32 : decode prog_2_method_8_code 32 = .ok (.aload_n 2, 1) := by decide +kernel
theorem D6_33 : decode prog_2_method_8_code 33 = .ok (.iconst 1, 1) := by decide +kernel
theorem D6_34 : decode prog_2_method_8_code 34 = .ok (.iaload, 1) := by decide +kernel
theorem D6_35 : decode prog_2_method_8_code 35 = .ok (.if_icmp .ne 27, 3) := by decide +kernel
theorem D6_38 : decode prog_2_method_8_code 38 = .ok (.aload 4, 2) := by decide +kernel
theorem D6_40 : decode prog_2_method_8_code 40 = .ok (.iconst 2, 1) := by decide +kernel
theorem D6_41 : decode prog_2_method_8_code 41 = .ok (.iaload, 1) := by decide +kernel
theorem D6_42 : decode prog_2_method_8_code 42 = .ok (.aload_n 2, 1) := by decide +kernel
theorem D6_43 : decode prog_2_method_8_code 43 = .ok (.iconst 2, 1) := by decide +kernel
theorem D6_44 : decode prog_2_method_8_code 44 = .ok (.iaload, 1) := by decide +kernel
theorem D6_45 : decode prog_2_method_8_code 45 = .ok (.if_icmp .ne 17, 3) := by decide +kernel
theorem D6_48 : decode prog_2_method_8_code 48 = .ok (.aload_n 0, 1) := by decide +kernel
theorem D6_49 : decode prog_2_method_8_code 49 = .ok (.getfield 22, 3) := by decide +kernel
theorem D6_52 : decode prog_2_method_8_code 52 = .ok (.getfield 139, 3) := by decide +kernel
theorem D6_55 : decode prog_2_method_8_code 55 = .ok (.iload_n 3, 1) := by decide +kernel
theorem D6_56 : decode prog_2_method_8_code 56 = .ok (.iaload, 1) := by decide +kernel
theorem D6_57 : decode prog_2_method_8_code 57 = .ok (.ifCond .eq 5, 3) := by decide +kernel
theorem D6_60 : decode prog_2_method_8_code 60 = .ok (.iconst 1, 1) := by decide +kernel
theorem D6_61 : decode prog_2_method_8_code 61 = .ok (.ireturn, 1) := by decide +kernel
theorem D6_62 : decode prog_2_method_8_code 62 = .ok (.iinc 3 1, 3) := by decide +kernel
theorem D6_65 : decode prog_2_method_8_code 65 = .ok (.goto (-53), 3) := by decide +kernel
theorem D6_68 : decode prog_2_method_8_code 68 = .ok (.iconst 0, 1) := by decide +kernel
theorem D6_69 : decode prog_2_method_8_code 69 = .ok (.ireturn, 1) := by decide +kernel

theorem b6_0 {d : Nat} {i1 : Int32} {ia : Nat → Nat → Int32} {la : Nat → Nat → Int64} {pl dr : Nat} {cp : Nat} {cw : Nat} {rp : Option Nat} {K : Option Value → zHP → Prop} (hcp : zIsP cp) : zWP d 6 0 [some (.ref 102), some (.int i1), none, none, none] [] (ia, la, zRA pl dr (some cp) (some cw) rp) K = (vp_in i1 12 ∧ zWP d 6 12 [some (.ref 102), some (.int i1), some (.ref (cp + 16 + (i1).toNatClampNeg)), some (.int (0 : Int32)), none] [] (ia, la, zRA pl dr (some cp) (some cw) rp) K) := by
  refine (Q_aload_n zm_6 (Or.inl (by decide)) D6_0 rfl).trans ?_
  refine (Q_getR (q := cp) zm_6 (Or.inl (by decide)) D6_1 zf_0_18 zs_0_1 zk_102.1 rfl).trans ?_
  refine (Q_getR (q := (cp + 15)) zm_6 (Or.inl (by decide)) D6_4 zf_0_112 zs_3_9 (zkp_0 hcp).1 (zrp_9 hcp)).trans ?_
  refine (Q_iload_n zm_6 (Or.inl (by decide)) D6_7 rfl).trans ?_
  refine (Q_aaload (f := (fun j => cp + 16 + j)) zm_6 (Or.inl (by decide)) D6_8 (zkp_15 hcp).1 (zkp_15 hcp).2 (zrow_t (pl := pl) (dr := dr) (cp := (some cp)) (cw := (some cw)) (rp := rp) hcp)).trans ?_
  refine zand_c (fun h0_ => ?_)
  refine (Q_astore_n (ls' := [some (.ref 102), some (.int i1), some (.ref (cp + 16 + (i1).toNatClampNeg)), none, none]) zm_6 (Or.inl (by decide)) D6_9 rfl (Nat.le_of_ble_eq_true rfl) rfl).trans ?_
  refine (Q_iconst (v := 0) zm_6 (Or.inl (by decide)) D6_10 (by decide)).trans ?_
  refine (Q_istore_n (ls' := [some (.ref 102), some (.int i1), some (.ref (cp + 16 + (i1).toNatClampNeg)), some (.int (0 : Int32)), none]) zm_6 (Or.inl (by decide)) D6_11 rfl (Nat.le_of_ble_eq_true rfl) rfl).trans ?_
  rfl

theorem b6_12 {d : Nat} {i1 : Int32} {r2 : Nat} {i3 : Int32} {a4 : Option Value} {ia : Nat → Nat → Int32} {la : Nat → Nat → Int64} {pl dr : Nat} {cp : Nat} {cw : Nat} {rp : Option Nat} {K : Option Value → zHP → Prop} (hcp : zIsP cp) (hcw : zIsW cw) : zWP d 6 12 [some (.ref 102), some (.int i1), some (.ref r2), some (.int i3), a4] [] (ia, la, zRA pl dr (some cp) (some cw) rp) K = (if i1 ≤ i3 then K (some (.int (0 : Int32))) (ia, la, zRA pl dr (some cp) (some cw) rp) else (vp_in i3 12 ∧ ((zkd r2 = 100 ∧ vp_in (1 : Int32) (zln r2)) ∧ (if ¬ (ia (cp + 16 + (i3).toNatClampNeg) 1) = (ia r2 1) then zWP d 6 12 [some (.ref 102), some (.int i1), some (.ref r2), some (.int (i3 + (1 : Int32))), some (.ref (cp + 16 + (i3).toNatClampNeg))] [] (ia, la, zRA pl dr (some cp) (some cw) rp) K else ((zkd r2 = 100 ∧ vp_in (2 : Int32) (zln r2)) ∧ (if ¬ (ia (cp + 16 + (i3).toNatClampNeg) 2) = (ia r2 2) then zWP d 6 12 [some (.ref 102), some (.int i1), some (.ref r2), some (.int (i3 + (1 : Int32))), some (.ref (cp + 16 + (i3).toNatClampNeg))] [] (ia, la, zRA pl dr (some cp) (some cw) rp) K else (if (ia (cw + 6) (i3).toNatClampNeg) = 0 then zWP d 6 12 [some (.ref 102), some (.int i1), some (.ref r2), some (.int (i3 + (1 : Int32))), some (.ref (cp + 16 + (i3).toNatClampNeg))] [] (ia, la, zRA pl dr (some cp) (some cw) rp) K else K (some (.int (1 : Int32))) (ia, la, zRA pl dr (some cp) (some cw) rp)))))))) := by
  refine (Q_iload_n zm_6 (Or.inl (by decide)) D6_12 rfl).trans ?_
  refine (Q_iload_n zm_6 (Or.inl (by decide)) D6_13 rfl).trans ?_
  refine (Q_ic_ge (tgt := 68) zm_6 (Or.inl (by decide)) D6_14 (by decide)).trans ?_
  refine zif_c (fun h0_ => ?_) (fun h0_ => ?_)
  · refine (Q_iconst (v := 0) zm_6 (Or.inl (by decide)) D6_68 (by decide)).trans ?_
    exact Q_zreturn zm_6 (Or.inl (by decide)) D6_69 rfl (by decide)
  · refine (Q_aload_n zm_6 (Or.inl (by decide)) D6_17 rfl).trans ?_
    refine (Q_getR (q := cp) zm_6 (Or.inl (by decide)) D6_18 zf_0_18 zs_0_1 zk_102.1 rfl).trans ?_
    refine (Q_getR (q := (cp + 15)) zm_6 (Or.inl (by decide)) D6_21 zf_0_112 zs_3_9 (zkp_0 hcp).1 (zrp_9 hcp)).trans ?_
    refine (Q_iload_n zm_6 (Or.inl (by decide)) D6_24 rfl).trans ?_
    refine (Q_aaload (f := (fun j => cp + 16 + j)) zm_6 (Or.inl (by decide)) D6_25 (zkp_15 hcp).1 (zkp_15 hcp).2 (zrow_t (pl := pl) (dr := dr) (cp := (some cp)) (cw := (some cw)) (rp := rp) hcp)).trans ?_
    refine zand_c (fun h1_ => ?_)
    refine (Q_astore (ls' := [some (.ref 102), some (.int i1), some (.ref r2), some (.int i3), some (.ref (cp + 16 + (i3).toNatClampNeg))]) zm_6 (Or.inl (by decide)) D6_26 rfl (Nat.le_of_ble_eq_true rfl) rfl).trans ?_
    refine (Q_aload zm_6 (Or.inl (by decide)) D6_28 rfl).trans ?_
    refine (Q_iconst (v := 1) zm_6 (Or.inl (by decide)) D6_30 (by decide)).trans ?_
    refine ((Q_iaload zm_6 (Or.inl (by decide)) D6_31 (zkrow_t hcp h1_).1 (zkrow_t hcp h1_).2).trans (zdrop (zin_spec (by decide)))).trans ?_
    refine (Q_aload_n zm_6 (Or.inl (by decide)) D6_32 rfl).trans ?_
    refine (Q_iconst (v := 1) zm_6 (Or.inl (by decide)) D6_33 (by decide)).trans ?_
    refine (Q_ialoadV zm_6 (Or.inl (by decide)) D6_34 (by decide)).trans ?_
    refine zand_c (fun h2_ => ?_)
    refine (Q_ic_ne (tgt := 62) zm_6 (Or.inl (by decide)) D6_35 (by decide)).trans ?_
    refine zif_c (fun h3_ => ?_) (fun h3_ => ?_)
    · refine (Q_iinc (v := 1) (ls' := [some (.ref 102), some (.int i1), some (.ref r2), some (.int (i3 + (1 : Int32))), some (.ref (cp + 16 + (i3).toNatClampNeg))]) zm_6 (Or.inl (by decide)) D6_62 rfl rfl (by decide) rfl).trans ?_
      refine (Q_goto (tgt := 12) zm_6 (Or.inl (by decide)) D6_65 (by decide)).trans ?_
      rfl
    · refine (Q_aload zm_6 (Or.inl (by decide)) D6_38 rfl).trans ?_
      refine (Q_iconst (v := 2) zm_6 (Or.inl (by decide)) D6_40 (by decide)).trans ?_
      refine ((Q_iaload zm_6 (Or.inl (by decide)) D6_41 (zkrow_t hcp h1_).1 (zkrow_t hcp h1_).2).trans (zdrop (zin_spec (by decide)))).trans ?_
      refine (Q_aload_n zm_6 (Or.inl (by decide)) D6_42 rfl).trans ?_
      refine (Q_iconst (v := 2) zm_6 (Or.inl (by decide)) D6_43 (by decide)).trans ?_
      refine (Q_ialoadV zm_6 (Or.inl (by decide)) D6_44 (by decide)).trans ?_
      refine zand_c (fun h4_ => ?_)
      refine (Q_ic_ne (tgt := 62) zm_6 (Or.inl (by decide)) D6_45 (by decide)).trans ?_
      refine zif_c (fun h5_ => ?_) (fun h5_ => ?_)
      · refine (Q_iinc (v := 1) (ls' := [some (.ref 102), some (.int i1), some (.ref r2), some (.int (i3 + (1 : Int32))), some (.ref (cp + 16 + (i3).toNatClampNeg))]) zm_6 (Or.inl (by decide)) D6_62 rfl rfl (by decide) rfl).trans ?_
        refine (Q_goto (tgt := 12) zm_6 (Or.inl (by decide)) D6_65 (by decide)).trans ?_
        rfl
      · refine (Q_aload_n zm_6 (Or.inl (by decide)) D6_48 rfl).trans ?_
        refine (Q_getR (q := cw) zm_6 (Or.inl (by decide)) D6_49 zf_0_22 zs_0_2 zk_102.1 rfl).trans ?_
        refine (Q_getR (q := (cw + 6)) zm_6 (Or.inl (by decide)) D6_52 zf_0_139 zs_8_7 (zkw_0 hcw).1 (zrw_7 hcw)).trans ?_
        refine (Q_iload_n zm_6 (Or.inl (by decide)) D6_55 rfl).trans ?_
        refine ((Q_iaload zm_6 (Or.inl (by decide)) D6_56 (zkw_6 hcw).1 (zkw_6 hcw).2).trans (zdrop h1_)).trans ?_
        refine (Q_if_eq (tgt := 62) zm_6 (Or.inl (by decide)) D6_57 (by decide)).trans ?_
        refine zif_c (fun h6_ => ?_) (fun h6_ => ?_)
        · refine (Q_iinc (v := 1) (ls' := [some (.ref 102), some (.int i1), some (.ref r2), some (.int (i3 + (1 : Int32))), some (.ref (cp + 16 + (i3).toNatClampNeg))]) zm_6 (Or.inl (by decide)) D6_62 rfl rfl (by decide) rfl).trans ?_
          refine (Q_goto (tgt := 12) zm_6 (Or.inl (by decide)) D6_65 (by decide)).trans ?_
          rfl
        · refine (Q_iconst (v := 1) zm_6 (Or.inl (by decide)) D6_60 (by decide)).trans ?_
          exact Q_zreturn zm_6 (Or.inl (by decide)) D6_61 rfl (by decide)

/-! HandsLet$Course.bankLooks()Z -/
theorem D7_0 : decode prog_2_method_9_code 0 = .ok (.aload_n 0, 1) := by decide +kernel
theorem D7_1 : decode prog_2_method_9_code 1 = .ok (.getfield 18, 3) := by decide +kernel
theorem D7_4 : decode prog_2_method_9_code 4 = .ok (.getfield 30, 3) := by decide +kernel
theorem D7_7 : decode prog_2_method_9_code 7 = .ok (.iconst 1, 1) := by decide +kernel
theorem D7_8 : decode prog_2_method_9_code 8 = .ok (.iaload, 1) := by decide +kernel
theorem D7_9 : decode prog_2_method_9_code 9 = .ok (.istore_n 1, 1) := by decide +kernel
theorem D7_10 : decode prog_2_method_9_code 10 = .ok (.aload_n 0, 1) := by decide +kernel
theorem D7_11 : decode prog_2_method_9_code 11 = .ok (.getfield 26, 3) := by decide +kernel
theorem D7_14 : decode prog_2_method_9_code 14 = .ok (.tableswitch 42 1 3 #[30, 26, 28], 26) := by decide +kernel
theorem D7_40 : decode prog_2_method_9_code 40 = .ok (.iconst 0, 1) := by decide +kernel
theorem D7_41 : decode prog_2_method_9_code 41 = .ok (.ireturn, 1) := by decide +kernel
theorem D7_42 : decode prog_2_method_9_code 42 = .ok (.iconst 1, 1) := by decide +kernel
theorem D7_43 : decode prog_2_method_9_code 43 = .ok (.ireturn, 1) := by decide +kernel
theorem D7_44 : decode prog_2_method_9_code 44 = .ok (.iload_n 1, 1) := by decide +kernel
theorem D7_45 : decode prog_2_method_9_code 45 = .ok (.bipush 50, 2) := by decide +kernel
theorem D7_47 : decode prog_2_method_9_code 47 = .ok (.if_icmp .lt 7, 3) := by decide +kernel
theorem D7_50 : decode prog_2_method_9_code 50 = .ok (.iconst 1, 1) := by decide +kernel
theorem D7_51 : decode prog_2_method_9_code 51 = .ok (.goto 4, 3) := by decide +kernel
theorem D7_54 : decode prog_2_method_9_code 54 = .ok (.iconst 0, 1) := by decide +kernel
theorem D7_55 : decode prog_2_method_9_code 55 = .ok (.ireturn, 1) := by decide +kernel
theorem D7_56 : decode prog_2_method_9_code 56 = .ok (.iload_n 1, 1) := by decide +kernel
theorem D7_57 : decode prog_2_method_9_code 57 = .ok (.bipush 100, 2) := by decide +kernel
theorem D7_59 : decode prog_2_method_9_code 59 = .ok (.if_icmp .eq 21, 3) := by decide +kernel
theorem D7_62 : decode prog_2_method_9_code 62 = .ok (.iload_n 1, 1) := by decide +kernel
theorem D7_63 : decode prog_2_method_9_code 63 = .ok (.ifCond .le 21, 3) := by decide +kernel
theorem D7_66 : decode prog_2_method_9_code 66 = .ok (.aload_n 0, 1) := by decide +kernel
theorem D7_67 : decode prog_2_method_9_code 67 = .ok (.getfield 22, 3) := by decide +kernel
theorem D7_70 : decode prog_2_method_9_code 70 = .ok (.invokevirtual 142, 3) := by decide +kernel
theorem D7_73 : decode prog_2_method_9_code 73 = .ok (.bipush 100, 2) := by decide +kernel
theorem D7_75 : decode prog_2_method_9_code 75 = .ok (.irem, 1) := by decide +kernel
theorem D7_76 : decode prog_2_method_9_code 76 = .ok (.iload_n 1, 1) := by decide +kernel
theorem D7_77 : decode prog_2_method_9_code 77 = .ok (.if_icmp .ge 7, 3) := by decide +kernel
theorem D7_80 : decode prog_2_method_9_code 80 = .ok (.iconst 1, 1) := by decide +kernel
theorem D7_81 : decode prog_2_method_9_code 81 = .ok (.goto 4, 3) := by decide +kernel
theorem D7_84 : decode prog_2_method_9_code 84 = .ok (.iconst 0, 1) := by decide +kernel
theorem D7_85 : decode prog_2_method_9_code 85 = .ok (.ireturn, 1) := by decide +kernel

theorem b7_0 {d : Nat}  {ia : Nat → Nat → Int32} {la : Nat → Nat → Int64} {pl dr : Nat} {cp : Nat} {cw : Nat} {rp : Option Nat} {K : Option Value → zHP → Prop} (hcp : zIsP cp) (hcw : zIsW cw) : zWP (d + 1) 7 0 [some (.ref 102), none] [] (ia, la, zRA pl dr (some cp) (some cw) rp) K = (if (ia 102 3) = 1 then (if (ia (cp + 28) 1) < (50 : Int32) then K (some (.int (0 : Int32))) (ia, la, zRA pl dr (some cp) (some cw) rp) else K (some (.int (1 : Int32))) (ia, la, zRA pl dr (some cp) (some cw) rp)) else (if (ia 102 3) = 2 then K (some (.int (0 : Int32))) (ia, la, zRA pl dr (some cp) (some cw) rp) else (if (ia 102 3) = 3 then K (some (.int (1 : Int32))) (ia, la, zRA pl dr (some cp) (some cw) rp) else (if (ia (cp + 28) 1) = (100 : Int32) then K (some (.int (1 : Int32))) (ia, la, zRA pl dr (some cp) (some cw) rp) else (if (ia (cp + 28) 1) ≤ 0 then K (some (.int (0 : Int32))) (ia, la, zRA pl dr (some cp) (some cw) rp) else zWM d 73 [.ref cw] (ia, la, zRA pl dr (some cp) (some cw) rp) (zK (d + 1) 7 73 [some (.ref 102), some (.int (ia (cp + 28) 1))] [] K)))))) := by
  refine (Q_aload_n zm_7 (Or.inl (by decide)) D7_0 rfl).trans ?_
  refine (Q_getR (q := cp) zm_7 (Or.inl (by decide)) D7_1 zf_0_18 zs_0_1 zk_102.1 rfl).trans ?_
  refine (Q_getR (q := (cp + 28)) zm_7 (Or.inl (by decide)) D7_4 zf_0_30 zs_3_10 (zkp_0 hcp).1 (zrp_10 hcp)).trans ?_
  refine (Q_iconst (v := 1) zm_7 (Or.inl (by decide)) D7_7 (by decide)).trans ?_
  refine ((Q_iaload zm_7 (Or.inl (by decide)) D7_8 (zkp_28 hcp).1 (zkp_28 hcp).2).trans (zdrop (zin_spec (by decide)))).trans ?_
  refine (Q_istore_n (ls' := [some (.ref 102), some (.int (ia (cp + 28) 1))]) zm_7 (Or.inl (by decide)) D7_9 rfl (Nat.le_of_ble_eq_true rfl) rfl).trans ?_
  refine (Q_aload_n zm_7 (Or.inl (by decide)) D7_10 rfl).trans ?_
  refine (Q_getI zm_7 (Or.inl (by decide)) D7_11 zf_0_26 (Or.inl zs_0_3) zk_102.1).trans ?_
  by_cases h0_ : (ia 102 3) = 1
  · rw [if_pos h0_]
    refine (congrArg (fun q => zWP (d + 1) 7 14 [some (.ref 102), some (.int (ia (cp + 28) 1))] (.int q :: []) (ia, la, zRA pl dr (some cp) (some cw) rp) K) h0_).trans ?_
    refine (Q_tsw (tgt := 44) zm_7 (Or.inl (by decide)) D7_14 rfl (by decide)).trans ?_
    refine (Q_iload_n zm_7 (Or.inl (by decide)) D7_44 rfl).trans ?_
    refine (Q_bipush (v := 50) zm_7 (Or.inl (by decide)) D7_45 (by decide)).trans ?_
    refine (Q_ic_lt (tgt := 54) zm_7 (Or.inl (by decide)) D7_47 (by decide)).trans ?_
    refine zif_c (fun h1_ => ?_) (fun h1_ => ?_)
    · refine (Q_iconst (v := 0) zm_7 (Or.inl (by decide)) D7_54 (by decide)).trans ?_
      exact Q_zreturn zm_7 (Or.inl (by decide)) D7_55 rfl (by decide)
    · refine (Q_iconst (v := 1) zm_7 (Or.inl (by decide)) D7_50 (by decide)).trans ?_
      refine (Q_goto (tgt := 55) zm_7 (Or.inl (by decide)) D7_51 (by decide)).trans ?_
      exact Q_zreturn zm_7 (Or.inl (by decide)) D7_55 rfl (by decide)
  rw [if_neg h0_]
  by_cases h2_ : (ia 102 3) = 2
  · rw [if_pos h2_]
    refine (congrArg (fun q => zWP (d + 1) 7 14 [some (.ref 102), some (.int (ia (cp + 28) 1))] (.int q :: []) (ia, la, zRA pl dr (some cp) (some cw) rp) K) h2_).trans ?_
    refine (Q_tsw (tgt := 40) zm_7 (Or.inl (by decide)) D7_14 rfl (by decide)).trans ?_
    refine (Q_iconst (v := 0) zm_7 (Or.inl (by decide)) D7_40 (by decide)).trans ?_
    exact Q_zreturn zm_7 (Or.inl (by decide)) D7_41 rfl (by decide)
  rw [if_neg h2_]
  by_cases h3_ : (ia 102 3) = 3
  · rw [if_pos h3_]
    refine (congrArg (fun q => zWP (d + 1) 7 14 [some (.ref 102), some (.int (ia (cp + 28) 1))] (.int q :: []) (ia, la, zRA pl dr (some cp) (some cw) rp) K) h3_).trans ?_
    refine (Q_tsw (tgt := 42) zm_7 (Or.inl (by decide)) D7_14 rfl (by decide)).trans ?_
    refine (Q_iconst (v := 1) zm_7 (Or.inl (by decide)) D7_42 (by decide)).trans ?_
    exact Q_zreturn zm_7 (Or.inl (by decide)) D7_43 rfl (by decide)
  rw [if_neg h3_]
  refine (Q_tsw (tgt := 56) zm_7 (Or.inl (by decide)) D7_14 (zsw_out (n := 3) (by decide) (fun q hq => ?_)) (by decide)).trans ?_
  · rcases (show q = 0 ∨ q = 1 ∨ q = 2 by omega) with rfl | rfl | rfl
    · exact h0_
    · exact h2_
    · exact h3_
  refine (Q_iload_n zm_7 (Or.inl (by decide)) D7_56 rfl).trans ?_
  refine (Q_bipush (v := 100) zm_7 (Or.inl (by decide)) D7_57 (by decide)).trans ?_
  refine (Q_ic_eq (tgt := 80) zm_7 (Or.inl (by decide)) D7_59 (by decide)).trans ?_
  refine zif_c (fun h4_ => ?_) (fun h4_ => ?_)
  · refine (Q_iconst (v := 1) zm_7 (Or.inl (by decide)) D7_80 (by decide)).trans ?_
    refine (Q_goto (tgt := 85) zm_7 (Or.inl (by decide)) D7_81 (by decide)).trans ?_
    exact Q_zreturn zm_7 (Or.inl (by decide)) D7_85 rfl (by decide)
  · refine (Q_iload_n zm_7 (Or.inl (by decide)) D7_62 rfl).trans ?_
    refine (Q_if_le (tgt := 84) zm_7 (Or.inl (by decide)) D7_63 (by decide)).trans ?_
    refine zif_c (fun h5_ => ?_) (fun h5_ => ?_)
    · refine (Q_iconst (v := 0) zm_7 (Or.inl (by decide)) D7_84 (by decide)).trans ?_
      exact Q_zreturn zm_7 (Or.inl (by decide)) D7_85 rfl (by decide)
    · refine (Q_aload_n zm_7 (Or.inl (by decide)) D7_66 rfl).trans ?_
      refine (Q_getR (q := cw) zm_7 (Or.inl (by decide)) D7_67 zf_0_22 zs_0_2 zk_102.1 rfl).trans ?_
      exact Q_callv (as := []) (b := cw) (rest := []) zm_7 (Or.inl (by decide)) D7_70 zc_0_142 rfl (zkw_0 hcw).1 (by decide) (by decide +kernel) (by decide) (by simp [zcat, Value.category]) zm_73 rfl

theorem b7_73 {d : Nat} {i1 : Int32} {s0 : Int32} {ia : Nat → Nat → Int32} {la : Nat → Nat → Int64} {pl dr : Nat} {cp : Nat} {cw : Nat} {rp : Option Nat} {K : Option Value → zHP → Prop}  : zWP d 7 73 [some (.ref 102), some (.int i1)] [.int s0] (ia, la, zRA pl dr (some cp) (some cw) rp) K = (if i1 ≤ (s0 - s0 / (100 : Int32) * (100 : Int32)) then K (some (.int (0 : Int32))) (ia, la, zRA pl dr (some cp) (some cw) rp) else K (some (.int (1 : Int32))) (ia, la, zRA pl dr (some cp) (some cw) rp)) := by
  refine (Q_bipush (v := 100) zm_7 (Or.inl (by decide)) D7_73 (by decide)).trans ?_
  refine (Q_irem zm_7 (Or.inl (by decide)) D7_75 (by decide)).trans ?_
  refine (Q_iload_n zm_7 (Or.inl (by decide)) D7_76 rfl).trans ?_
  refine (Q_ic_ge (tgt := 84) zm_7 (Or.inl (by decide)) D7_77 (by decide)).trans ?_
  refine zif_c (fun h0_ => ?_) (fun h0_ => ?_)
  · refine (Q_iconst (v := 0) zm_7 (Or.inl (by decide)) D7_84 (by decide)).trans ?_
    exact Q_zreturn zm_7 (Or.inl (by decide)) D7_85 rfl (by decide)
  · refine (Q_iconst (v := 1) zm_7 (Or.inl (by decide)) D7_80 (by decide)).trans ?_
    refine (Q_goto (tgt := 85) zm_7 (Or.inl (by decide)) D7_81 (by decide)).trans ?_
    exact Q_zreturn zm_7 (Or.inl (by decide)) D7_85 rfl (by decide)

/-! HandsLet$Course.findForged()V -/
theorem D8_0 : decode prog_2_method_10_code 0 = .ok (.iconst 0, 1) := by decide +kernel
theorem D8_1 : decode prog_2_method_10_code 1 = .ok (.istore_n 1, 1) := by decide +kernel
theorem D8_2 : decode prog_2_method_10_code 2 = .ok (.iload_n 1, 1) := by decide +kernel
theorem D8_3 : decode prog_2_method_10_code 3 = .ok (.aload_n 0, 1) := by decide +kernel
theorem D8_4 : decode prog_2_method_10_code 4 = .ok (.getfield 18, 3) := by decide +kernel
theorem D8_7 : decode prog_2_method_10_code 7 = .ok (.getfield 109, 3) := by decide +kernel
theorem D8_10 : decode prog_2_method_10_code 10 = .ok (.if_icmp .ge 109, 3) := by decide +kernel
theorem D8_13 : decode prog_2_method_10_code 13 = .ok (.aload_n 0, 1) := by decide +kernel
theorem D8_14 : decode prog_2_method_10_code 14 = .ok (.getfield 18, 3) := by decide +kernel
theorem D8_17 : decode prog_2_method_10_code 17 = .ok (.getfield 112, 3) := by decide +kernel
theorem D8_20 : decode prog_2_method_10_code 20 = .ok (.iload_n 1, 1) := by decide +kernel
theorem D8_21 : decode prog_2_method_10_code 21 = .ok (.aaload, 1) := by decide +kernel
theorem D8_22 : decode prog_2_method_10_code 22 = .ok (.astore_n 2, 1) := by decide +kernel
theorem D8_23 : decode prog_2_method_10_code 23 = .ok (.aload_n 2, 1) := by decide +kernel
theorem D8_24 : decode prog_2_method_10_code 24 = .ok (.iconst 2, 1) := by decide +kernel
theorem D8_25 : decode prog_2_method_10_code 25 = .ok (.iaload, 1) := by decide +kernel
theorem D8_26 : decode prog_2_method_10_code 26 = .ok (.aload_n 0, 1) := by decide +kernel
theorem D8_27 : decode prog_2_method_10_code 27 = .ok (.getfield 22, 3) := by decide +kernel
theorem D8_30 : decode prog_2_method_10_code 30 = .ok (.getfield 52, 3) := by decide +kernel
theorem D8_33 : decode prog_2_method_10_code 33 = .ok (.if_icmp .ne 80, 3) := by decide +kernel
theorem D8_36 : decode prog_2_method_10_code 36 = .ok (.aload_n 0, 1) := by decide +kernel
theorem D8_37 : decode prog_2_method_10_code 37 = .ok (.getfield 22, 3) := by decide +kernel
theorem D8_40 : decode prog_2_method_10_code 40 = .ok (.getfield 139, 3) := by decide +kernel
theorem D8_43 : decode prog_2_method_10_code 43 = .ok (.iload_n 1, 1) := by decide +kernel
theorem D8_44 : decode prog_2_method_10_code 44 = .ok (.iaload, 1) := by decide +kernel
theorem D8_45 : decode prog_2_method_10_code 45 = .ok (.iconst 2, 1) := by decide +kernel
theorem D8_46 : decode prog_2_method_10_code 46 = .ok (.if_icmp .ne 67, 3) := by decide +kernel
theorem D8_49 : decode prog_2_method_10_code 49 = .ok (.aload_n 0, 1) := by decide +kernel
theorem D8_50 : decode prog_2_method_10_code 50 = .ok (.getfield 22, 3) := by decide +kernel
theorem D8_53 : decode prog_2_method_10_code 53 = .ok (.getfield 146, 3) := by decide +kernel
theorem D8_56 : decode prog_2_method_10_code 56 = .ok (.iload_n 1, 1) := by decide +kernel
theorem D8_57 : decode prog_2_method_10_code 57 = .ok (.iconst 1, 1) := by decide +kernel
theorem D8_58 : decode prog_2_method_10_code 58 = .ok (.iastore, 1) := by decide +kernel
theorem D8_59 : decode prog_2_method_10_code 59 = .ok (.aload_n 0, 1) := by decide +kernel
theorem D8_60 : decode prog_2_method_10_code 60 = .ok (.getfield 22, 3) := by decide +kernel
theorem D8_63 : decode prog_2_method_10_code 63 = .ok (.dup, 1) := by decide +kernel
theorem D8_64 : decode prog_2_method_10_code 64 = .ok (.getfield 149, 3) := by decide +kernel
theorem D8_67 : decode prog_2_method_10_code 67 = .ok (.iconst 1, 1) := by decide +kernel
theorem D8_68 : decode prog_2_method_10_code 68 = .ok (.iadd, 1) := by decide +kernel
theorem D8_69 : decode prog_2_method_10_code 69 = .ok (.putfield 149, 3) := by decide +kernel
theorem D8_72 : decode prog_2_method_10_code 72 = .ok (.aload_n 2, 1) := by decide +kernel
theorem D8_73 : decode prog_2_method_10_code 73 = .ok (.iconst 0, 1) := by decide +kernel
theorem D8_74 : decode prog_2_method_10_code 74 = .ok (.iaload, 1) := by decide +kernel
theorem D8_75 : decode prog_2_method_10_code 75 = .ok (.istore_n 3, 1) := by decide +kernel
theorem D8_76 : decode prog_2_method_10_code 76 = .ok (.aload_n 0, 1) := by decide +kernel
theorem D8_77 : decode prog_2_method_10_code 77 = .ok (.iconst 2, 1) := by decide +kernel
theorem D8_78 : decode prog_2_method_10_code 78 = .ok (.aload_n 2, 1) := by decide +kernel
theorem D8_79 : decode prog_2_method_10_code 79 = .ok (.iconst 1, 1) := by decide +kernel
theorem D8_80 : decode prog_2_method_10_code 80 = .ok (.iaload, 1) := by decide +kernel
theorem D8_81 : decode prog_2_method_10_code 81 = .ok (.iload_n 3, 1) := by decide +kernel
theorem D8_82 : decode prog_2_method_10_code 82 = .ok (.iconst 0, 1) := by decide +kernel
theorem D8_83 : decode prog_2_method_10_code 83 = .ok (.invokevirtual 94, 3) := by decide +kernel
theorem D8_86 : decode prog_2_method_10_code 86 = .ok (.istore 4, 2) := by decide +kernel
theorem D8_88 : decode prog_2_method_10_code 88 = .ok (.aload_n 0, 1) := by decide +kernel
theorem D8_89 : decode prog_2_method_10_code 89 = .ok (.getfield 22, 3) := by decide +kernel
theorem D8_92 : decode prog_2_method_10_code 92 = .ok (.getfield 152, 3) := by decide +kernel
theorem D8_95 : decode prog_2_method_10_code 95 = .ok (.iload_n 3, 1) := by decide +kernel
theorem D8_96 : decode prog_2_method_10_code 96 = .ok (.iconst 0, 1) := by decide +kernel
theorem D8_97 : decode prog_2_method_10_code 97 = .ok (.aload_n 0, 1) := by decide +kernel
theorem D8_98 : decode prog_2_method_10_code 98 = .ok (.getfield 22, 3) := by decide +kernel
theorem D8_101 : decode prog_2_method_10_code 101 = .ok (.getfield 152, 3) := by decide +kernel
theorem D8_104 : decode prog_2_method_10_code 104 = .ok (.iload_n 3, 1) := by decide +kernel
theorem D8_105 : decode prog_2_method_10_code 105 = .ok (.iaload, 1) := by decide +kernel
theorem D8_106 : decode prog_2_method_10_code 106 = .ok (.iload 4, 2) := by decide +kernel
theorem D8_108 : decode prog_2_method_10_code 108 = .ok (.isub, 1) := by decide +kernel
theorem D8_109 : decode prog_2_method_10_code 109 = .ok (.invokestatic 155, 3) := by decide +kernel
theorem D8_112 : decode prog_2_method_10_code 112 = .ok (.iastore, 1) := by decide +kernel
theorem D8_113 : decode prog_2_method_10_code 113 = .ok (.iinc 1 1, 3) := by decide +kernel
theorem D8_116 : decode prog_2_method_10_code 116 = .ok (.goto (-114), 3) := by decide +kernel
theorem D8_119 : decode prog_2_method_10_code 119 = .ok (.return_, 1) := by decide +kernel

theorem b8_0 {d : Nat}  {ia : Nat → Nat → Int32} {la : Nat → Nat → Int64} {pl dr : Nat} {cp : Nat} {cw : Nat} {rp : Option Nat} {K : Option Value → zHP → Prop}  : zWP d 8 0 [some (.ref 102), none, none, none, none] [] (ia, la, zRA pl dr (some cp) (some cw) rp) K = zWP d 8 2 [some (.ref 102), some (.int (0 : Int32)), none, none, none] [] (ia, la, zRA pl dr (some cp) (some cw) rp) K := by
  refine (Q_iconst (v := 0) zm_8 (Or.inl (by decide)) D8_0 (by decide)).trans ?_
  refine (Q_istore_n (ls' := [some (.ref 102), some (.int (0 : Int32)), none, none, none]) zm_8 (Or.inl (by decide)) D8_1 rfl (Nat.le_of_ble_eq_true rfl) rfl).trans ?_
  rfl

theorem b8_2 {d : Nat} {i1 : Int32} {a2 : Option Value} {a3 : Option Value} {a4 : Option Value} {ia : Nat → Nat → Int32} {la : Nat → Nat → Int64} {pl dr : Nat} {cp : Nat} {cw : Nat} {rp : Option Nat} {K : Option Value → zHP → Prop} (hcp : zIsP cp) (hcw : zIsW cw) : zWP (d + 1) 8 2 [some (.ref 102), some (.int i1), a2, a3, a4] [] (ia, la, zRA pl dr (some cp) (some cw) rp) K = (if (ia cp 3) ≤ i1 then K none (ia, la, zRA pl dr (some cp) (some cw) rp) else (vp_in i1 12 ∧ (if ¬ (ia (cp + 16 + (i1).toNatClampNeg) 2) = (ia cw 0) then zWP (d + 1) 8 2 [some (.ref 102), some (.int (i1 + (1 : Int32))), some (.ref (cp + 16 + (i1).toNatClampNeg)), a3, a4] [] (ia, la, zRA pl dr (some cp) (some cw) rp) K else (if ¬ (ia (cw + 6) (i1).toNatClampNeg) = (2 : Int32) then zWP (d + 1) 8 2 [some (.ref 102), some (.int (i1 + (1 : Int32))), some (.ref (cp + 16 + (i1).toNatClampNeg)), a3, a4] [] (ia, la, zRA pl dr (some cp) (some cw) rp) K else zWM d 10 [.ref 102, .int (2 : Int32), .int ((zu (zu ia (cw + 8) (i1).toNatClampNeg (1 : Int32)) cw 13 (((zu ia (cw + 8) (i1).toNatClampNeg (1 : Int32)) cw 13) + (1 : Int32))) (cp + 16 + (i1).toNatClampNeg) 1), .int ((zu (zu ia (cw + 8) (i1).toNatClampNeg (1 : Int32)) cw 13 (((zu ia (cw + 8) (i1).toNatClampNeg (1 : Int32)) cw 13) + (1 : Int32))) (cp + 16 + (i1).toNatClampNeg) 0), .int (0 : Int32)] ((zu (zu ia (cw + 8) (i1).toNatClampNeg (1 : Int32)) cw 13 (((zu ia (cw + 8) (i1).toNatClampNeg (1 : Int32)) cw 13) + (1 : Int32))), la, zRA pl dr (some cp) (some cw) rp) (zK (d + 1) 8 86 [some (.ref 102), some (.int i1), some (.ref (cp + 16 + (i1).toNatClampNeg)), some (.int ((zu (zu ia (cw + 8) (i1).toNatClampNeg (1 : Int32)) cw 13 (((zu ia (cw + 8) (i1).toNatClampNeg (1 : Int32)) cw 13) + (1 : Int32))) (cp + 16 + (i1).toNatClampNeg) 0)), a4] [] K))))) := by
  refine (Q_iload_n zm_8 (Or.inl (by decide)) D8_2 rfl).trans ?_
  refine (Q_aload_n zm_8 (Or.inl (by decide)) D8_3 rfl).trans ?_
  refine (Q_getR (q := cp) zm_8 (Or.inl (by decide)) D8_4 zf_0_18 zs_0_1 zk_102.1 rfl).trans ?_
  refine (Q_getI zm_8 (Or.inl (by decide)) D8_7 zf_0_109 (Or.inl zs_3_3) (zkp_0 hcp).1).trans ?_
  refine (Q_ic_ge (tgt := 119) zm_8 (Or.inl (by decide)) D8_10 (by decide)).trans ?_
  refine zif_c (fun h0_ => ?_) (fun h0_ => ?_)
  · exact Q_return zm_8 (Or.inl (by decide)) D8_119 rfl
  · refine (Q_aload_n zm_8 (Or.inl (by decide)) D8_13 rfl).trans ?_
    refine (Q_getR (q := cp) zm_8 (Or.inl (by decide)) D8_14 zf_0_18 zs_0_1 zk_102.1 rfl).trans ?_
    refine (Q_getR (q := (cp + 15)) zm_8 (Or.inl (by decide)) D8_17 zf_0_112 zs_3_9 (zkp_0 hcp).1 (zrp_9 hcp)).trans ?_
    refine (Q_iload_n zm_8 (Or.inl (by decide)) D8_20 rfl).trans ?_
    refine (Q_aaload (f := (fun j => cp + 16 + j)) zm_8 (Or.inl (by decide)) D8_21 (zkp_15 hcp).1 (zkp_15 hcp).2 (zrow_t (pl := pl) (dr := dr) (cp := (some cp)) (cw := (some cw)) (rp := rp) hcp)).trans ?_
    refine zand_c (fun h1_ => ?_)
    refine (Q_astore_n (ls' := [some (.ref 102), some (.int i1), some (.ref (cp + 16 + (i1).toNatClampNeg)), a3, a4]) zm_8 (Or.inl (by decide)) D8_22 rfl (Nat.le_of_ble_eq_true rfl) rfl).trans ?_
    refine (Q_aload_n zm_8 (Or.inl (by decide)) D8_23 rfl).trans ?_
    refine (Q_iconst (v := 2) zm_8 (Or.inl (by decide)) D8_24 (by decide)).trans ?_
    refine ((Q_iaload zm_8 (Or.inl (by decide)) D8_25 (zkrow_t hcp h1_).1 (zkrow_t hcp h1_).2).trans (zdrop (zin_spec (by decide)))).trans ?_
    refine (Q_aload_n zm_8 (Or.inl (by decide)) D8_26 rfl).trans ?_
    refine (Q_getR (q := cw) zm_8 (Or.inl (by decide)) D8_27 zf_0_22 zs_0_2 zk_102.1 rfl).trans ?_
    refine (Q_getI zm_8 (Or.inl (by decide)) D8_30 zf_0_52 (Or.inl zs_8_0) (zkw_0 hcw).1).trans ?_
    refine (Q_ic_ne (tgt := 113) zm_8 (Or.inl (by decide)) D8_33 (by decide)).trans ?_
    refine zif_c (fun h2_ => ?_) (fun h2_ => ?_)
    · refine (Q_iinc (v := 1) (ls' := [some (.ref 102), some (.int (i1 + (1 : Int32))), some (.ref (cp + 16 + (i1).toNatClampNeg)), a3, a4]) zm_8 (Or.inl (by decide)) D8_113 rfl rfl (by decide) rfl).trans ?_
      refine (Q_goto (tgt := 2) zm_8 (Or.inl (by decide)) D8_116 (by decide)).trans ?_
      rfl
    · refine (Q_aload_n zm_8 (Or.inl (by decide)) D8_36 rfl).trans ?_
      refine (Q_getR (q := cw) zm_8 (Or.inl (by decide)) D8_37 zf_0_22 zs_0_2 zk_102.1 rfl).trans ?_
      refine (Q_getR (q := (cw + 6)) zm_8 (Or.inl (by decide)) D8_40 zf_0_139 zs_8_7 (zkw_0 hcw).1 (zrw_7 hcw)).trans ?_
      refine (Q_iload_n zm_8 (Or.inl (by decide)) D8_43 rfl).trans ?_
      refine ((Q_iaload zm_8 (Or.inl (by decide)) D8_44 (zkw_6 hcw).1 (zkw_6 hcw).2).trans (zdrop h1_)).trans ?_
      refine (Q_iconst (v := 2) zm_8 (Or.inl (by decide)) D8_45 (by decide)).trans ?_
      refine (Q_ic_ne (tgt := 113) zm_8 (Or.inl (by decide)) D8_46 (by decide)).trans ?_
      refine zif_c (fun h3_ => ?_) (fun h3_ => ?_)
      · refine (Q_iinc (v := 1) (ls' := [some (.ref 102), some (.int (i1 + (1 : Int32))), some (.ref (cp + 16 + (i1).toNatClampNeg)), a3, a4]) zm_8 (Or.inl (by decide)) D8_113 rfl rfl (by decide) rfl).trans ?_
        refine (Q_goto (tgt := 2) zm_8 (Or.inl (by decide)) D8_116 (by decide)).trans ?_
        rfl
      · refine (Q_aload_n zm_8 (Or.inl (by decide)) D8_49 rfl).trans ?_
        refine (Q_getR (q := cw) zm_8 (Or.inl (by decide)) D8_50 zf_0_22 zs_0_2 zk_102.1 rfl).trans ?_
        refine (Q_getR (q := (cw + 8)) zm_8 (Or.inl (by decide)) D8_53 zf_0_146 zs_8_9 (zkw_0 hcw).1 (zrw_9 hcw)).trans ?_
        refine (Q_iload_n zm_8 (Or.inl (by decide)) D8_56 rfl).trans ?_
        refine (Q_iconst (v := 1) zm_8 (Or.inl (by decide)) D8_57 (by decide)).trans ?_
        refine ((Q_iastore zm_8 (Or.inl (by decide)) D8_58 (zkw_8 hcw).1 (zkw_8 hcw).2).trans (zdrop h1_)).trans ?_
        refine (Q_aload_n zm_8 (Or.inl (by decide)) D8_59 rfl).trans ?_
        refine (Q_getR (q := cw) zm_8 (Or.inl (by decide)) D8_60 zf_0_22 zs_0_2 zk_102.1 rfl).trans ?_
        refine (Q_dup zm_8 (Or.inl (by decide)) D8_63 rfl).trans ?_
        refine (Q_getI zm_8 (Or.inl (by decide)) D8_64 zf_0_149 (Or.inl zs_8_13) (zkw_0 hcw).1).trans ?_
        refine (Q_iconst (v := 1) zm_8 (Or.inl (by decide)) D8_67 (by decide)).trans ?_
        refine (Q_iadd zm_8 (Or.inl (by decide)) D8_68).trans ?_
        refine (Q_putI zm_8 (Or.inl (by decide)) D8_69 zf_0_149 zs_8_13 rfl (zkw_0 hcw).1).trans ?_
        refine (Q_aload_n zm_8 (Or.inl (by decide)) D8_72 rfl).trans ?_
        refine (Q_iconst (v := 0) zm_8 (Or.inl (by decide)) D8_73 (by decide)).trans ?_
        refine ((Q_iaload zm_8 (Or.inl (by decide)) D8_74 (zkrow_t hcp h1_).1 (zkrow_t hcp h1_).2).trans (zdrop (zin_spec (by decide)))).trans ?_
        refine (Q_istore_n (ls' := [some (.ref 102), some (.int i1), some (.ref (cp + 16 + (i1).toNatClampNeg)), some (.int ((zu (zu ia (cw + 8) (i1).toNatClampNeg (1 : Int32)) cw 13 (((zu ia (cw + 8) (i1).toNatClampNeg (1 : Int32)) cw 13) + (1 : Int32))) (cp + 16 + (i1).toNatClampNeg) 0)), a4]) zm_8 (Or.inl (by decide)) D8_75 rfl (Nat.le_of_ble_eq_true rfl) rfl).trans ?_
        refine (Q_aload_n zm_8 (Or.inl (by decide)) D8_76 rfl).trans ?_
        refine (Q_iconst (v := 2) zm_8 (Or.inl (by decide)) D8_77 (by decide)).trans ?_
        refine (Q_aload_n zm_8 (Or.inl (by decide)) D8_78 rfl).trans ?_
        refine (Q_iconst (v := 1) zm_8 (Or.inl (by decide)) D8_79 (by decide)).trans ?_
        refine ((Q_iaload zm_8 (Or.inl (by decide)) D8_80 (zkrow_t hcp h1_).1 (zkrow_t hcp h1_).2).trans (zdrop (zin_spec (by decide)))).trans ?_
        refine (Q_iload_n zm_8 (Or.inl (by decide)) D8_81 rfl).trans ?_
        refine (Q_iconst (v := 0) zm_8 (Or.inl (by decide)) D8_82 (by decide)).trans ?_
        exact Q_callv (as := [.int (2 : Int32), .int ((zu (zu ia (cw + 8) (i1).toNatClampNeg (1 : Int32)) cw 13 (((zu ia (cw + 8) (i1).toNatClampNeg (1 : Int32)) cw 13) + (1 : Int32))) (cp + 16 + (i1).toNatClampNeg) 1), .int ((zu (zu ia (cw + 8) (i1).toNatClampNeg (1 : Int32)) cw 13 (((zu ia (cw + 8) (i1).toNatClampNeg (1 : Int32)) cw 13) + (1 : Int32))) (cp + 16 + (i1).toNatClampNeg) 0), .int (0 : Int32)]) (b := 102) (rest := []) zm_8 (Or.inl (by decide)) D8_83 zc_0_94 rfl zk_102.1 (by decide) (by decide +kernel) (by decide) (by simp [zcat, Value.category]) zm_10 rfl

theorem b8_86 {d : Nat} {i1 : Int32} {r2 : Nat} {i3 : Int32} {a4 : Option Value} {s0 : Int32} {ia : Nat → Nat → Int32} {la : Nat → Nat → Int64} {pl dr : Nat} {cp : Nat} {cw : Nat} {rp : Option Nat} {K : Option Value → zHP → Prop} (hcw : zIsW cw) : zWP (d + 5) 8 86 [some (.ref 102), some (.int i1), some (.ref r2), some (.int i3), a4] [.int s0] (ia, la, zRA pl dr (some cp) (some cw) rp) K = (vp_in i3 6 ∧ zWP (d + 5) 8 2 [some (.ref 102), some (.int (i1 + (1 : Int32))), some (.ref r2), some (.int i3), some (.int s0)] [] ((zu ia (cw + 1) (i3).toNatClampNeg (if (0 : Int32) < ((ia (cw + 1) (i3).toNatClampNeg) - s0) then ((ia (cw + 1) (i3).toNatClampNeg) - s0) else (0 : Int32))), la, zRA pl dr (some cp) (some cw) rp) K) := by
  refine (Q_istore (ls' := [some (.ref 102), some (.int i1), some (.ref r2), some (.int i3), some (.int s0)]) zm_8 (Or.inl (by decide)) D8_86 rfl (Nat.le_of_ble_eq_true rfl) rfl).trans ?_
  refine (Q_aload_n zm_8 (Or.inl (by decide)) D8_88 rfl).trans ?_
  refine (Q_getR (q := cw) zm_8 (Or.inl (by decide)) D8_89 zf_0_22 zs_0_2 zk_102.1 rfl).trans ?_
  refine (Q_getR (q := (cw + 1)) zm_8 (Or.inl (by decide)) D8_92 zf_0_152 zs_8_2 (zkw_0 hcw).1 (zrw_2 hcw)).trans ?_
  refine (Q_iload_n zm_8 (Or.inl (by decide)) D8_95 rfl).trans ?_
  refine (Q_iconst (v := 0) zm_8 (Or.inl (by decide)) D8_96 (by decide)).trans ?_
  refine (Q_aload_n zm_8 (Or.inl (by decide)) D8_97 rfl).trans ?_
  refine (Q_getR (q := cw) zm_8 (Or.inl (by decide)) D8_98 zf_0_22 zs_0_2 zk_102.1 rfl).trans ?_
  refine (Q_getR (q := (cw + 1)) zm_8 (Or.inl (by decide)) D8_101 zf_0_152 zs_8_2 (zkw_0 hcw).1 (zrw_2 hcw)).trans ?_
  refine (Q_iload_n zm_8 (Or.inl (by decide)) D8_104 rfl).trans ?_
  refine (Q_iaload zm_8 (Or.inl (by decide)) D8_105 (zkw_1 hcw).1 (zkw_1 hcw).2).trans ?_
  refine zand_c (fun h0_ => ?_)
  refine (Q_iload zm_8 (Or.inl (by decide)) D8_106 rfl).trans ?_
  refine (Q_isub zm_8 (Or.inl (by decide)) D8_108).trans ?_
  refine (Q_bis (as := [.int (0 : Int32), .int ((ia (cw + 1) (i3).toNatClampNeg) - s0)]) (rest := [.int i3, .ref (cw + 1)]) zm_8 (Or.inl (by decide)) D8_109 zc_0_155 rfl (by decide) (by simp [zcat, Value.category]) rfl).trans ?_
  refine ((Q_iastore zm_8 (Or.inl (by decide)) D8_112 (zkw_1 hcw).1 (zkw_1 hcw).2).trans (zdrop h0_)).trans ?_
  refine (Q_iinc (v := 1) (ls' := [some (.ref 102), some (.int (i1 + (1 : Int32))), some (.ref r2), some (.int i3), some (.int s0)]) zm_8 (Or.inl (by decide)) D8_113 rfl rfl (by decide) rfl).trans ?_
  refine (Q_goto (tgt := 2) zm_8 (Or.inl (by decide)) D8_116 (by decide)).trans ?_
  rfl

/-! HandsLet$Course.comeBack(I)V -/
theorem D9_0 : decode prog_2_method_11_code 0 = .ok (.aload_n 0, 1) := by decide +kernel
theorem D9_1 : decode prog_2_method_11_code 1 = .ok (.getfield 22, 3) := by decide +kernel
theorem D9_4 : decode prog_2_method_11_code 4 = .ok (.getfield 161, 3) := by decide +kernel
theorem D9_7 : decode prog_2_method_11_code 7 = .ok (.iload_n 1, 1) := by decide +kernel
theorem D9_8 : decode prog_2_method_11_code 8 = .ok (.iaload, 1) := by decide +kernel
theorem D9_9 : decode prog_2_method_11_code 9 = .ok (.istore_n 2, 1) := by decide +kernel
theorem D9_10 : decode prog_2_method_11_code 10 = .ok (.aload_n 0, 1) := by decide +kernel
theorem D9_11 : decode prog_2_method_11_code 11 = .ok (.iconst 1, 1) := by decide +kernel
theorem D9_12 : decode prog_2_method_11_code 12 = .ok (.iload_n 1, 1) := by decide +kernel
theorem D9_13 : decode prog_2_method_11_code 13 = .ok (.iload_n 2, 1) := by decide +kernel
theorem D9_14 : decode prog_2_method_11_code 14 = .ok (.iconst 0, 1) := by decide +kernel
theorem D9_15 : decode prog_2_method_11_code 15 = .ok (.invokevirtual 94, 3) := by decide +kernel
theorem D9_18 : decode prog_2_method_11_code 18 = .ok (.istore_n 3, 1) := by decide +kernel
theorem D9_19 : decode prog_2_method_11_code 19 = .ok (.iconst 0, 1) := by decide +kernel
theorem D9_20 : decode prog_2_method_11_code 20 = .ok (.istore 4, 2) := by decide +kernel
theorem D9_22 : decode prog_2_method_11_code 22 = .ok (.iload 4, 2) := by decide +kernel
theorem D9_24 : decode prog_2_method_11_code 24 = .ok (.iconst 3, 1) := by decide +kernel
theorem D9_25 : decode prog_2_method_11_code 25 = .ok (.if_icmp .ge 69, 3) := by decide +kernel
theorem D9_28 : decode prog_2_method_11_code 28 = .ok (.iload_n 1, 1) := by decide +kernel
theorem D9_29 : decode prog_2_method_11_code 29 = .ok (.iconst 3, 1) := by decide +kernel
theorem D9_30 : decode prog_2_method_11_code 30 = .ok (.imul, 1) := by decide +kernel
theorem D9_31 : decode prog_2_method_11_code 31 = .ok (.iload 4, 2) := by decide +kernel
theorem D9_33 : decode prog_2_method_11_code 33 = .ok (.iadd, 1) := by decide +kernel
theorem D9_34 : decode prog_2_method_11_code 34 = .ok (.istore 5, 2) := by decide +kernel
theorem D9_36 : decode prog_2_method_11_code 36 = .ok (.sipush 1000, 3) := by decide +kernel
theorem D9_39 : decode prog_2_method_11_code 39 = .ok (.aload_n 0, 1) := by decide +kernel
theorem D9_40 : decode prog_2_method_11_code 40 = .ok (.getfield 18, 3) := by decide +kernel
theorem D9_43 : decode prog_2_method_11_code 43 = .ok (.getfield 126, 3) := by decide +kernel
theorem D9_46 : decode prog_2_method_11_code 46 = .ok (.iload_n 2, 1) := by decide +kernel
theorem D9_47 : decode prog_2_method_11_code 47 = .ok (.iconst 3, 1) := by decide +kernel
theorem D9_48 : decode prog_2_method_11_code 48 = .ok (.imul, 1) := by decide +kernel
theorem D9_49 : decode prog_2_method_11_code 49 = .ok (.iload 4, 2) := by decide +kernel
theorem D9_51 : decode prog_2_method_11_code 51 = .ok (.iadd, 1) := by decide +kernel
theorem D9_52 : decode prog_2_method_11_code 52 = .ok (.iaload, 1) := by decide +kernel
theorem D9_53 : decode prog_2_method_11_code 53 = .ok (.imul, 1) := by decide +kernel
theorem D9_54 : decode prog_2_method_11_code 54 = .ok (.aload_n 0, 1) := by decide +kernel
theorem D9_55 : decode prog_2_method_11_code 55 = .ok (.getfield 22, 3) := by decide +kernel
theorem D9_58 : decode prog_2_method_11_code 58 = .ok (.getfield 123, 3) := by decide +kernel
theorem D9_61 : decode prog_2_method_11_code 61 = .ok (.iload 5, 2) := by decide +kernel
theorem D9_63 : decode prog_2_method_11_code 63 = .ok (.iaload, 1) := by decide +kernel
theorem D9_64 : decode prog_2_method_11_code 64 = .ok (.isub, 1) := by decide +kernel
theorem D9_65 : decode prog_2_method_11_code 65 = .ok (.istore 6, 2) := by decide +kernel
theorem D9_67 : decode prog_2_method_11_code 67 = .ok (.aload_n 0, 1) := by decide +kernel
theorem D9_68 : decode prog_2_method_11_code 68 = .ok (.getfield 22, 3) := by decide +kernel
theorem D9_71 : decode prog_2_method_11_code 71 = .ok (.getfield 123, 3) := by decide +kernel
theorem D9_74 : decode prog_2_method_11_code 74 = .ok (.iload 5, 2) := by decide +kernel
theorem D9_76 : decode prog_2_method_11_code 76 = .ok (.dup2, 1) := by decide +kernel
theorem D9_77 : decode prog_2_method_11_code 77 = .ok (.iaload, 1) := by decide +kernel
theorem D9_78 : decode prog_2_method_11_code 78 = .ok (.iload 6, 2) := by decide +kernel
theorem D9_80 : decode prog_2_method_11_code 80 = .ok (.iload_n 3, 1) := by decide +kernel
theorem D9_81 : decode prog_2_method_11_code 81 = .ok (.imul, 1) := by decide +kernel
theorem D9_82 : decode prog_2_method_11_code 82 = .ok (.sipush 1000, 3) := by decide +kernel
theorem D9_85 : decode prog_2_method_11_code 85 = .ok (.idiv, 1) := by decide +kernel
theorem D9_86 : decode prog_2_method_11_code 86 = .ok (.iadd, 1) := by decide +kernel
theorem D9_87 : decode prog_2_method_11_code 87 = .ok (.iastore, 1) := by decide +kernel
theorem D9_88 : decode prog_2_method_11_code 88 = .ok (.iinc 4 1, 3) := by decide +kernel
theorem D9_91 : decode prog_2_method_11_code 91 = .ok (.goto (-69), 3) := by decide +kernel
theorem D9_94 : decode prog_2_method_11_code 94 = .ok (.aload_n 0, 1) := by decide +kernel
theorem D9_95 : decode prog_2_method_11_code 95 = .ok (.getfield 22, 3) := by decide +kernel
theorem D9_98 : decode prog_2_method_11_code 98 = .ok (.getfield 161, 3) := by decide +kernel
theorem D9_101 : decode prog_2_method_11_code 101 = .ok (.iload_n 1, 1) := by decide +kernel
theorem D9_102 : decode prog_2_method_11_code 102 = .ok (.bipush (-2), 2) := by decide +kernel
theorem D9_104 : decode prog_2_method_11_code 104 = .ok (.iastore, 1) := by decide +kernel
theorem D9_105 : decode prog_2_method_11_code 105 = .ok (.aload_n 0, 1) := by decide +kernel
theorem D9_106 : decode prog_2_method_11_code 106 = .ok (.getfield 22, 3) := by decide +kernel
theorem D9_109 : decode prog_2_method_11_code 109 = .ok (.getfield 80, 3) := by decide +kernel
theorem D9_112 : decode prog_2_method_11_code 112 = .ok (.iload_n 1, 1) := by decide +kernel
theorem D9_113 : decode prog_2_method_11_code 113 = .ok (.iconst 0, 1) := by decide +kernel
theorem D9_114 : decode prog_2_method_11_code 114 = .ok (.iastore, 1) := by decide +kernel
theorem D9_115 : decode prog_2_method_11_code 115 = .ok (.aload_n 0, 1) := by decide +kernel
theorem D9_116 : decode prog_2_method_11_code 116 = .ok (.getfield 22, 3) := by decide +kernel
theorem D9_119 : decode prog_2_method_11_code 119 = .ok (.getfield 164, 3) := by decide +kernel
theorem D9_122 : decode prog_2_method_11_code 122 = .ok (.iload_n 1, 1) := by decide +kernel
theorem D9_123 : decode prog_2_method_11_code 123 = .ok (.dup2, 1) := by decide +kernel
theorem D9_124 : decode prog_2_method_11_code 124 = .ok (.iaload, 1) := by decide +kernel
theorem D9_125 : decode prog_2_method_11_code 125 = .ok (.iconst 1, 1) := by decide +kernel
theorem D9_126 : decode prog_2_method_11_code 126 = .ok (.iadd, 1) := by decide +kernel
theorem D9_127 : decode prog_2_method_11_code 127 = .ok (.iastore, 1) := by decide +kernel
theorem D9_128 : decode prog_2_method_11_code 128 = .ok (.return_, 1) := by decide +kernel

theorem b9_0 {d : Nat} {i1 : Int32} {ia : Nat → Nat → Int32} {la : Nat → Nat → Int64} {pl dr : Nat} {cp : Nat} {cw : Nat} {rp : Option Nat} {K : Option Value → zHP → Prop} (hcw : zIsW cw) : zWP (d + 1) 9 0 [some (.ref 102), some (.int i1), none, none, none, none, none] [] (ia, la, zRA pl dr (some cp) (some cw) rp) K = (vp_in i1 6 ∧ zWM d 10 [.ref 102, .int (1 : Int32), .int i1, .int (ia (cw + 3) (i1).toNatClampNeg), .int (0 : Int32)] (ia, la, zRA pl dr (some cp) (some cw) rp) (zK (d + 1) 9 18 [some (.ref 102), some (.int i1), some (.int (ia (cw + 3) (i1).toNatClampNeg)), none, none, none, none] [] K)) := by
  refine (Q_aload_n zm_9 (Or.inl (by decide)) D9_0 rfl).trans ?_
  refine (Q_getR (q := cw) zm_9 (Or.inl (by decide)) D9_1 zf_0_22 zs_0_2 zk_102.1 rfl).trans ?_
  refine (Q_getR (q := (cw + 3)) zm_9 (Or.inl (by decide)) D9_4 zf_0_161 zs_8_4 (zkw_0 hcw).1 (zrw_4 hcw)).trans ?_
  refine (Q_iload_n zm_9 (Or.inl (by decide)) D9_7 rfl).trans ?_
  refine (Q_iaload zm_9 (Or.inl (by decide)) D9_8 (zkw_3 hcw).1 (zkw_3 hcw).2).trans ?_
  refine zand_c (fun h0_ => ?_)
  refine (Q_istore_n (ls' := [some (.ref 102), some (.int i1), some (.int (ia (cw + 3) (i1).toNatClampNeg)), none, none, none, none]) zm_9 (Or.inl (by decide)) D9_9 rfl (Nat.le_of_ble_eq_true rfl) rfl).trans ?_
  refine (Q_aload_n zm_9 (Or.inl (by decide)) D9_10 rfl).trans ?_
  refine (Q_iconst (v := 1) zm_9 (Or.inl (by decide)) D9_11 (by decide)).trans ?_
  refine (Q_iload_n zm_9 (Or.inl (by decide)) D9_12 rfl).trans ?_
  refine (Q_iload_n zm_9 (Or.inl (by decide)) D9_13 rfl).trans ?_
  refine (Q_iconst (v := 0) zm_9 (Or.inl (by decide)) D9_14 (by decide)).trans ?_
  exact Q_callv (as := [.int (1 : Int32), .int i1, .int (ia (cw + 3) (i1).toNatClampNeg), .int (0 : Int32)]) (b := 102) (rest := []) zm_9 (Or.inl (by decide)) D9_15 zc_0_94 rfl zk_102.1 (by decide) (by decide +kernel) (by decide) (by simp [zcat, Value.category]) zm_10 rfl

theorem b9_18 {d : Nat} {i1 : Int32} {i2 : Int32} {s0 : Int32} {ia : Nat → Nat → Int32} {la : Nat → Nat → Int64} {pl dr : Nat} {cp : Nat} {cw : Nat} {rp : Option Nat} {K : Option Value → zHP → Prop}  : zWP d 9 18 [some (.ref 102), some (.int i1), some (.int i2), none, none, none, none] [.int s0] (ia, la, zRA pl dr (some cp) (some cw) rp) K = zWP d 9 22 [some (.ref 102), some (.int i1), some (.int i2), some (.int s0), some (.int (0 : Int32)), none, none] [] (ia, la, zRA pl dr (some cp) (some cw) rp) K := by
  refine (Q_istore_n (ls' := [some (.ref 102), some (.int i1), some (.int i2), some (.int s0), none, none, none]) zm_9 (Or.inl (by decide)) D9_18 rfl (Nat.le_of_ble_eq_true rfl) rfl).trans ?_
  refine (Q_iconst (v := 0) zm_9 (Or.inl (by decide)) D9_19 (by decide)).trans ?_
  refine (Q_istore (ls' := [some (.ref 102), some (.int i1), some (.int i2), some (.int s0), some (.int (0 : Int32)), none, none]) zm_9 (Or.inl (by decide)) D9_20 rfl (Nat.le_of_ble_eq_true rfl) rfl).trans ?_
  rfl

theorem b9_22 {d : Nat} {i1 : Int32} {i2 : Int32} {i3 : Int32} {i4 : Int32} {a5 : Option Value} {a6 : Option Value} {ia : Nat → Nat → Int32} {la : Nat → Nat → Int64} {pl dr : Nat} {cp : Nat} {cw : Nat} {rp : Option Nat} {K : Option Value → zHP → Prop} (hcp : zIsP cp) (hcw : zIsW cw) : zWP d 9 22 [some (.ref 102), some (.int i1), some (.int i2), some (.int i3), some (.int i4), a5, a6] [] (ia, la, zRA pl dr (some cp) (some cw) rp) K = (if (3 : Int32) ≤ i4 then (vp_in i1 6 ∧ K none ((zu (zu (zu ia (cw + 3) (i1).toNatClampNeg (-2 : Int32)) (cw + 4) (i1).toNatClampNeg (0 : Int32)) (cw + 5) (i1).toNatClampNeg (((zu (zu ia (cw + 3) (i1).toNatClampNeg (-2 : Int32)) (cw + 4) (i1).toNatClampNeg (0 : Int32)) (cw + 5) (i1).toNatClampNeg) + (1 : Int32))), la, zRA pl dr (some cp) (some cw) rp)) else (vp_in ((i2 * (3 : Int32)) + i4) 18 ∧ (vp_in ((i1 * (3 : Int32)) + i4) 18 ∧ zWP d 9 22 [some (.ref 102), some (.int i1), some (.int i2), some (.int i3), some (.int (i4 + (1 : Int32))), some (.int ((i1 * (3 : Int32)) + i4)), some (.int (((1000 : Int32) * (ia (cp + 2) (((i2 * (3 : Int32)) + i4)).toNatClampNeg)) - (ia (cw + 2) (((i1 * (3 : Int32)) + i4)).toNatClampNeg)))] [] ((zu ia (cw + 2) (((i1 * (3 : Int32)) + i4)).toNatClampNeg ((ia (cw + 2) (((i1 * (3 : Int32)) + i4)).toNatClampNeg) + (((((1000 : Int32) * (ia (cp + 2) (((i2 * (3 : Int32)) + i4)).toNatClampNeg)) - (ia (cw + 2) (((i1 * (3 : Int32)) + i4)).toNatClampNeg)) * i3) / (1000 : Int32)))), la, zRA pl dr (some cp) (some cw) rp) K))) := by
  refine (Q_iload zm_9 (Or.inl (by decide)) D9_22 rfl).trans ?_
  refine (Q_iconst (v := 3) zm_9 (Or.inl (by decide)) D9_24 (by decide)).trans ?_
  refine (Q_ic_ge (tgt := 94) zm_9 (Or.inl (by decide)) D9_25 (by decide)).trans ?_
  refine zif_c (fun h0_ => ?_) (fun h0_ => ?_)
  · refine (Q_aload_n zm_9 (Or.inl (by decide)) D9_94 rfl).trans ?_
    refine (Q_getR (q := cw) zm_9 (Or.inl (by decide)) D9_95 zf_0_22 zs_0_2 zk_102.1 rfl).trans ?_
    refine (Q_getR (q := (cw + 3)) zm_9 (Or.inl (by decide)) D9_98 zf_0_161 zs_8_4 (zkw_0 hcw).1 (zrw_4 hcw)).trans ?_
    refine (Q_iload_n zm_9 (Or.inl (by decide)) D9_101 rfl).trans ?_
    refine (Q_bipush (v := -2) zm_9 (Or.inl (by decide)) D9_102 (by decide)).trans ?_
    refine (Q_iastore zm_9 (Or.inl (by decide)) D9_104 (zkw_3 hcw).1 (zkw_3 hcw).2).trans ?_
    refine zand_c (fun h1_ => ?_)
    refine (Q_aload_n zm_9 (Or.inl (by decide)) D9_105 rfl).trans ?_
    refine (Q_getR (q := cw) zm_9 (Or.inl (by decide)) D9_106 zf_0_22 zs_0_2 zk_102.1 rfl).trans ?_
    refine (Q_getR (q := (cw + 4)) zm_9 (Or.inl (by decide)) D9_109 zf_0_80 zs_8_5 (zkw_0 hcw).1 (zrw_5 hcw)).trans ?_
    refine (Q_iload_n zm_9 (Or.inl (by decide)) D9_112 rfl).trans ?_
    refine (Q_iconst (v := 0) zm_9 (Or.inl (by decide)) D9_113 (by decide)).trans ?_
    refine ((Q_iastore zm_9 (Or.inl (by decide)) D9_114 (zkw_4 hcw).1 (zkw_4 hcw).2).trans (zdrop h1_)).trans ?_
    refine (Q_aload_n zm_9 (Or.inl (by decide)) D9_115 rfl).trans ?_
    refine (Q_getR (q := cw) zm_9 (Or.inl (by decide)) D9_116 zf_0_22 zs_0_2 zk_102.1 rfl).trans ?_
    refine (Q_getR (q := (cw + 5)) zm_9 (Or.inl (by decide)) D9_119 zf_0_164 zs_8_6 (zkw_0 hcw).1 (zrw_6 hcw)).trans ?_
    refine (Q_iload_n zm_9 (Or.inl (by decide)) D9_122 rfl).trans ?_
    refine (Q_dup2 zm_9 (Or.inl (by decide)) D9_123 rfl rfl).trans ?_
    refine ((Q_iaload zm_9 (Or.inl (by decide)) D9_124 (zkw_5 hcw).1 (zkw_5 hcw).2).trans (zdrop h1_)).trans ?_
    refine (Q_iconst (v := 1) zm_9 (Or.inl (by decide)) D9_125 (by decide)).trans ?_
    refine (Q_iadd zm_9 (Or.inl (by decide)) D9_126).trans ?_
    refine ((Q_iastore zm_9 (Or.inl (by decide)) D9_127 (zkw_5 hcw).1 (zkw_5 hcw).2).trans (zdrop h1_)).trans ?_
    exact Q_return zm_9 (Or.inl (by decide)) D9_128 rfl
  · refine (Q_iload_n zm_9 (Or.inl (by decide)) D9_28 rfl).trans ?_
    refine (Q_iconst (v := 3) zm_9 (Or.inl (by decide)) D9_29 (by decide)).trans ?_
    refine (Q_imul zm_9 (Or.inl (by decide)) D9_30).trans ?_
    refine (Q_iload zm_9 (Or.inl (by decide)) D9_31 rfl).trans ?_
    refine (Q_iadd zm_9 (Or.inl (by decide)) D9_33).trans ?_
    refine (Q_istore (ls' := [some (.ref 102), some (.int i1), some (.int i2), some (.int i3), some (.int i4), some (.int ((i1 * (3 : Int32)) + i4)), a6]) zm_9 (Or.inl (by decide)) D9_34 rfl (Nat.le_of_ble_eq_true rfl) rfl).trans ?_
    refine (Q_sipush (v := 1000) zm_9 (Or.inl (by decide)) D9_36 (by decide)).trans ?_
    refine (Q_aload_n zm_9 (Or.inl (by decide)) D9_39 rfl).trans ?_
    refine (Q_getR (q := cp) zm_9 (Or.inl (by decide)) D9_40 zf_0_18 zs_0_1 zk_102.1 rfl).trans ?_
    refine (Q_getR (q := (cp + 2)) zm_9 (Or.inl (by decide)) D9_43 zf_0_126 zs_3_6 (zkp_0 hcp).1 (zrp_6 hcp)).trans ?_
    refine (Q_iload_n zm_9 (Or.inl (by decide)) D9_46 rfl).trans ?_
    refine (Q_iconst (v := 3) zm_9 (Or.inl (by decide)) D9_47 (by decide)).trans ?_
    refine (Q_imul zm_9 (Or.inl (by decide)) D9_48).trans ?_
    refine (Q_iload zm_9 (Or.inl (by decide)) D9_49 rfl).trans ?_
    refine (Q_iadd zm_9 (Or.inl (by decide)) D9_51).trans ?_
    refine (Q_iaload zm_9 (Or.inl (by decide)) D9_52 (zkp_2 hcp).1 (zkp_2 hcp).2).trans ?_
    refine zand_c (fun h2_ => ?_)
    refine (Q_imul zm_9 (Or.inl (by decide)) D9_53).trans ?_
    refine (Q_aload_n zm_9 (Or.inl (by decide)) D9_54 rfl).trans ?_
    refine (Q_getR (q := cw) zm_9 (Or.inl (by decide)) D9_55 zf_0_22 zs_0_2 zk_102.1 rfl).trans ?_
    refine (Q_getR (q := (cw + 2)) zm_9 (Or.inl (by decide)) D9_58 zf_0_123 zs_8_3 (zkw_0 hcw).1 (zrw_3 hcw)).trans ?_
    refine (Q_iload zm_9 (Or.inl (by decide)) D9_61 rfl).trans ?_
    refine (Q_iaload zm_9 (Or.inl (by decide)) D9_63 (zkw_2 hcw).1 (zkw_2 hcw).2).trans ?_
    refine zand_c (fun h3_ => ?_)
    refine (Q_isub zm_9 (Or.inl (by decide)) D9_64).trans ?_
    refine (Q_istore (ls' := [some (.ref 102), some (.int i1), some (.int i2), some (.int i3), some (.int i4), some (.int ((i1 * (3 : Int32)) + i4)), some (.int (((1000 : Int32) * (ia (cp + 2) (((i2 * (3 : Int32)) + i4)).toNatClampNeg)) - (ia (cw + 2) (((i1 * (3 : Int32)) + i4)).toNatClampNeg)))]) zm_9 (Or.inl (by decide)) D9_65 rfl (Nat.le_of_ble_eq_true rfl) rfl).trans ?_
    refine (Q_aload_n zm_9 (Or.inl (by decide)) D9_67 rfl).trans ?_
    refine (Q_getR (q := cw) zm_9 (Or.inl (by decide)) D9_68 zf_0_22 zs_0_2 zk_102.1 rfl).trans ?_
    refine (Q_getR (q := (cw + 2)) zm_9 (Or.inl (by decide)) D9_71 zf_0_123 zs_8_3 (zkw_0 hcw).1 (zrw_3 hcw)).trans ?_
    refine (Q_iload zm_9 (Or.inl (by decide)) D9_74 rfl).trans ?_
    refine (Q_dup2 zm_9 (Or.inl (by decide)) D9_76 rfl rfl).trans ?_
    refine ((Q_iaload zm_9 (Or.inl (by decide)) D9_77 (zkw_2 hcw).1 (zkw_2 hcw).2).trans (zdrop h3_)).trans ?_
    refine (Q_iload zm_9 (Or.inl (by decide)) D9_78 rfl).trans ?_
    refine (Q_iload_n zm_9 (Or.inl (by decide)) D9_80 rfl).trans ?_
    refine (Q_imul zm_9 (Or.inl (by decide)) D9_81).trans ?_
    refine (Q_sipush (v := 1000) zm_9 (Or.inl (by decide)) D9_82 (by decide)).trans ?_
    refine (Q_idiv zm_9 (Or.inl (by decide)) D9_85 (by decide)).trans ?_
    refine (Q_iadd zm_9 (Or.inl (by decide)) D9_86).trans ?_
    refine ((Q_iastore zm_9 (Or.inl (by decide)) D9_87 (zkw_2 hcw).1 (zkw_2 hcw).2).trans (zdrop h3_)).trans ?_
    refine (Q_iinc (v := 1) (ls' := [some (.ref 102), some (.int i1), some (.int i2), some (.int i3), some (.int (i4 + (1 : Int32))), some (.int ((i1 * (3 : Int32)) + i4)), some (.int (((1000 : Int32) * (ia (cp + 2) (((i2 * (3 : Int32)) + i4)).toNatClampNeg)) - (ia (cw + 2) (((i1 * (3 : Int32)) + i4)).toNatClampNeg)))]) zm_9 (Or.inl (by decide)) D9_88 rfl rfl (by decide) rfl).trans ?_
    refine (Q_goto (tgt := 22) zm_9 (Or.inl (by decide)) D9_91 (by decide)).trans ?_
    rfl

/-! HandsLet$Course.bounded(IIII)I -/
theorem D10_0 : decode prog_2_method_12_code 0 = .ok (.iload_n 1, 1) := by decide +kernel
theorem D10_1 : decode prog_2_method_12_code 1 = .ok (.ifCond .ne 10, 3) := by decide +kernel
theorem D10_4 : decode prog_2_method_12_code 4 = .ok (.aload_n 0, 1) := by decide +kernel
theorem D10_5 : decode prog_2_method_12_code 5 = .ok (.getfield 42, 3) := by decide +kernel
theorem D10_8 : decode prog_2_method_12_code 8 = .ok (.ifCond .ne 15, 3) := by decide +kernel
theorem D10_11 : decode prog_2_method_12_code 11 = .ok (.iload_n 1, 1) := by decide +kernel
theorem D10_12 : decode prog_2_method_12_code 12 = .ok (.iconst 2, 1) := by decide +kernel
theorem D10_13 : decode prog_2_method_12_code 13 = .ok (.if_icmp .ne 12, 3) := by decide +kernel
theorem D10_16 : decode prog_2_method_12_code 16 = .ok (.aload_n 0, 1) := by decide +kernel
theorem D10_17 : decode prog_2_method_12_code 17 = .ok (.getfield 46, 3) := by decide +kernel
theorem D10_20 : decode prog_2_method_12_code 20 = .ok (.ifCond .eq 5, 3) := by decide +kernel
theorem D10_23 : decode prog_2_method_12_code 23 = .ok (.iconst 0, 1) := by decide +kernel
theorem D10_24 : decode prog_2_method_12_code 24 = .ok (.ireturn, 1) := by decide +kernel
theorem D10_25 : decode prog_2_method_12_code 25 = .ok (.aload_n 0, 1) := by decide +kernel
theorem D10_26 : decode prog_2_method_12_code 26 = .ok (.getfield 12, 3) := by decide +kernel
theorem D10_29 : decode prog_2_method_12_code 29 = .ok (.aload_n 0, 1) := by decide +kernel
theorem D10_30 : decode prog_2_method_12_code 30 = .ok (.getfield 22, 3) := by decide +kernel
theorem D10_33 : decode prog_2_method_12_code 33 = .ok (.iload_n 2, 1) := by decide +kernel
theorem D10_34 : decode prog_2_method_12_code 34 = .ok (.iload_n 3, 1) := by decide +kernel
theorem D10_35 : decode prog_2_method_12_code 35 = .ok (.iload 4, 2) := by decide +kernel
theorem D10_37 : decode prog_2_method_12_code 37 = .ok (.invokevirtual 167, 3) := by decide +kernel
theorem D10_40 : decode prog_2_method_12_code 40 = .ok (.aload_n 0, 1) := by decide +kernel
theorem D10_41 : decode prog_2_method_12_code 41 = .ok (.getfield 12, 3) := by decide +kernel
theorem D10_44 : decode prog_2_method_12_code 44 = .ok (.aload_n 0, 1) := by decide +kernel
theorem D10_45 : decode prog_2_method_12_code 45 = .ok (.getfield 18, 3) := by decide +kernel
theorem D10_48 : decode prog_2_method_12_code 48 = .ok (.iload_n 1, 1) := by decide +kernel
theorem D10_49 : decode prog_2_method_12_code 49 = .ok (.invokevirtual 171, 3) := by decide +kernel
theorem D10_52 : decode prog_2_method_12_code 52 = .ok (.lstore 5, 2) := by decide +kernel
theorem D10_54 : decode prog_2_method_12_code 54 = .ok (.lload 5, 2) := by decide +kernel
theorem D10_56 : decode prog_2_method_12_code 56 = .ok (.ldc2_w 175, 3) := by decide +kernel
theorem D10_59 : decode prog_2_method_12_code 59 = .ok (.lcmp, 1) := by decide +kernel
theorem D10_60 : decode prog_2_method_12_code 60 = .ok (.ifCond .ne 30, 3) := by decide +kernel
theorem D10_63 : decode prog_2_method_12_code 63 = .ok (.iload_n 1, 1) := by decide +kernel
theorem D10_64 : decode prog_2_method_12_code 64 = .ok (.ifCond .ne 8, 3) := by decide +kernel
theorem D10_67 : decode prog_2_method_12_code 67 = .ok (.iload 4, 2) := by decide +kernel
theorem D10_69 : decode prog_2_method_12_code 69 = .ok (.goto 20, 3) := by decide +kernel
theorem D10_72 : decode prog_2_method_12_code 72 = .ok (.iload_n 1, 1) := by decide +kernel
theorem D10_73 : decode prog_2_method_12_code 73 = .ok (.iconst 1, 1) := by decide +kernel
theorem D10_74 : decode prog_2_method_12_code 74 = .ok (.if_icmp .ne 13, 3) := by decide +kernel
theorem D10_77 : decode prog_2_method_12_code 77 = .ok (.bipush 10, 2) := by decide +kernel
theorem D10_79 : decode prog_2_method_12_code 79 = .ok (.aload_n 0, 1) := by decide +kernel
theorem D10_80 : decode prog_2_method_12_code 80 = .ok (.getfield 36, 3) := by decide +kernel
theorem D10_83 : decode prog_2_method_12_code 83 = .ok (.imul, 1) := by decide +kernel
theorem D10_84 : decode prog_2_method_12_code 84 = .ok (.goto 5, 3) := by decide +kernel
theorem D10_87 : decode prog_2_method_12_code 87 = .ok (.bipush 10, 2) := by decide +kernel
theorem D10_89 : decode prog_2_method_12_code 89 = .ok (.ireturn, 1) := by decide +kernel
theorem D10_90 : decode prog_2_method_12_code 90 = .ok (.lconst 0, 1) := by decide +kernel
theorem D10_91 : decode prog_2_method_12_code 91 = .ok (.iload_n 1, 1) := by decide +kernel
theorem D10_92 : decode prog_2_method_12_code 92 = .ok (.iconst 1, 1) := by decide +kernel
theorem D10_93 : decode prog_2_method_12_code 93 = .ok (.if_icmp .ne 9, 3) := by decide +kernel
theorem D10_96 : decode prog_2_method_12_code 96 = .ok (.ldc2_w 177, 3) := by decide +kernel
theorem D10_99 : decode prog_2_method_12_code 99 = .ok (.goto 6, 3) := by decide +kernel
theorem D10_102 : decode prog_2_method_12_code 102 = .ok (.ldc2_w 179, 3) := by decide +kernel
theorem D10_105 : decode prog_2_method_12_code 105 = .ok (.lload 5, 2) := by decide +kernel
theorem D10_107 : decode prog_2_method_12_code 107 = .ok (.invokestatic 181, 3) := by decide +kernel
theorem D10_110 : decode prog_2_method_12_code 110 = .ok (.invokestatic 185, 3) := by decide +kernel
theorem D10_113 : decode prog_2_method_12_code 113 = .ok (.l2i, 1) := by decide +kernel
theorem D10_114 : decode prog_2_method_12_code 114 = .ok (.ireturn, 1) := by decide +kernel

theorem b10_0 {d : Nat} {i1 : Int32} {i2 : Int32} {i3 : Int32} {i4 : Int32} {ia : Nat → Nat → Int32} {la : Nat → Nat → Int64} {pl dr : Nat} {cp : Nat} {cw : Nat} {rp : Option Nat} {K : Option Value → zHP → Prop}  : zWP d 10 0 [some (.ref 102), some (.int i1), some (.int i2), some (.int i3), some (.int i4), none, none] [] (ia, la, zRA pl dr (some cp) (some cw) rp) K = (if ¬ i1 = 0 then zWP d 10 11 [some (.ref 102), some (.int i1), some (.int i2), some (.int i3), some (.int i4), none, none] [] (ia, la, zRA pl dr (some cp) (some cw) rp) K else (if ¬ (ia 102 6) = 0 then K (some (.int (0 : Int32))) (ia, la, zRA pl dr (some cp) (some cw) rp) else zWP d 10 11 [some (.ref 102), some (.int i1), some (.int i2), some (.int i3), some (.int i4), none, none] [] (ia, la, zRA pl dr (some cp) (some cw) rp) K)) := by
  refine (Q_iload_n zm_10 (Or.inl (by decide)) D10_0 rfl).trans ?_
  refine (Q_if_ne (tgt := 11) zm_10 (Or.inl (by decide)) D10_1 (by decide)).trans ?_
  refine zif_c (fun h0_ => ?_) (fun h0_ => ?_)
  · rfl
  · refine (Q_aload_n zm_10 (Or.inl (by decide)) D10_4 rfl).trans ?_
    refine (Q_getI zm_10 (Or.inl (by decide)) D10_5 zf_0_42 (Or.inr zs_0_6) zk_102.1).trans ?_
    refine (Q_if_ne (tgt := 23) zm_10 (Or.inl (by decide)) D10_8 (by decide)).trans ?_
    refine zif_c (fun h1_ => ?_) (fun h1_ => ?_)
    · refine (Q_iconst (v := 0) zm_10 (Or.inl (by decide)) D10_23 (by decide)).trans ?_
      exact Q_ireturn zm_10 (Or.inl (by decide)) D10_24 rfl
    · rfl

theorem b10_11 {d : Nat} {i1 : Int32} {i2 : Int32} {i3 : Int32} {i4 : Int32} {ia : Nat → Nat → Int32} {la : Nat → Nat → Int64} {pl dr : Nat} {cp : Nat} {cw : Nat} {rp : Option Nat} {K : Option Value → zHP → Prop}  : zWP (d + 1) 10 11 [some (.ref 102), some (.int i1), some (.int i2), some (.int i3), some (.int i4), none, none] [] (ia, la, zRA pl dr (some cp) (some cw) rp) K = (if ¬ i1 = (2 : Int32) then zWM d 50 [.ref 103, .ref cw, .int i2, .int i3, .int i4] (ia, la, zRA pl dr (some cp) (some cw) rp) (zK (d + 1) 10 40 [some (.ref 102), some (.int i1), some (.int i2), some (.int i3), some (.int i4), none, none] [] K) else (if (ia 102 7) = 0 then zWM d 50 [.ref 103, .ref cw, .int i2, .int i3, .int i4] (ia, la, zRA pl dr (some cp) (some cw) rp) (zK (d + 1) 10 40 [some (.ref 102), some (.int i1), some (.int i2), some (.int i3), some (.int i4), none, none] [] K) else K (some (.int (0 : Int32))) (ia, la, zRA pl dr (some cp) (some cw) rp))) := by
  refine (Q_iload_n zm_10 (Or.inl (by decide)) D10_11 rfl).trans ?_
  refine (Q_iconst (v := 2) zm_10 (Or.inl (by decide)) D10_12 (by decide)).trans ?_
  refine (Q_ic_ne (tgt := 25) zm_10 (Or.inl (by decide)) D10_13 (by decide)).trans ?_
  refine zif_c (fun h0_ => ?_) (fun h0_ => ?_)
  · refine (Q_aload_n zm_10 (Or.inl (by decide)) D10_25 rfl).trans ?_
    refine (Q_getR (q := 103) zm_10 (Or.inl (by decide)) D10_26 zf_0_12 zs_0_0 zk_102.1 rfl).trans ?_
    refine (Q_aload_n zm_10 (Or.inl (by decide)) D10_29 rfl).trans ?_
    refine (Q_getR (q := cw) zm_10 (Or.inl (by decide)) D10_30 zf_0_22 zs_0_2 zk_102.1 rfl).trans ?_
    refine (Q_iload_n zm_10 (Or.inl (by decide)) D10_33 rfl).trans ?_
    refine (Q_iload_n zm_10 (Or.inl (by decide)) D10_34 rfl).trans ?_
    refine (Q_iload zm_10 (Or.inl (by decide)) D10_35 rfl).trans ?_
    exact Q_callv (as := [.ref cw, .int i2, .int i3, .int i4]) (b := 103) (rest := []) zm_10 (Or.inl (by decide)) D10_37 zc_0_167 rfl zk_103.1 (by decide) (by decide +kernel) (by decide) (by simp [zcat, Value.category]) zm_50 rfl
  · refine (Q_aload_n zm_10 (Or.inl (by decide)) D10_16 rfl).trans ?_
    refine (Q_getI zm_10 (Or.inl (by decide)) D10_17 zf_0_46 (Or.inr zs_0_7) zk_102.1).trans ?_
    refine (Q_if_eq (tgt := 25) zm_10 (Or.inl (by decide)) D10_20 (by decide)).trans ?_
    refine zif_c (fun h1_ => ?_) (fun h1_ => ?_)
    · refine (Q_aload_n zm_10 (Or.inl (by decide)) D10_25 rfl).trans ?_
      refine (Q_getR (q := 103) zm_10 (Or.inl (by decide)) D10_26 zf_0_12 zs_0_0 zk_102.1 rfl).trans ?_
      refine (Q_aload_n zm_10 (Or.inl (by decide)) D10_29 rfl).trans ?_
      refine (Q_getR (q := cw) zm_10 (Or.inl (by decide)) D10_30 zf_0_22 zs_0_2 zk_102.1 rfl).trans ?_
      refine (Q_iload_n zm_10 (Or.inl (by decide)) D10_33 rfl).trans ?_
      refine (Q_iload_n zm_10 (Or.inl (by decide)) D10_34 rfl).trans ?_
      refine (Q_iload zm_10 (Or.inl (by decide)) D10_35 rfl).trans ?_
      exact Q_callv (as := [.ref cw, .int i2, .int i3, .int i4]) (b := 103) (rest := []) zm_10 (Or.inl (by decide)) D10_37 zc_0_167 rfl zk_103.1 (by decide) (by decide +kernel) (by decide) (by simp [zcat, Value.category]) zm_50 rfl
    · refine (Q_iconst (v := 0) zm_10 (Or.inl (by decide)) D10_23 (by decide)).trans ?_
      exact Q_ireturn zm_10 (Or.inl (by decide)) D10_24 rfl

theorem b10_40 {d : Nat} {i1 : Int32} {i2 : Int32} {i3 : Int32} {i4 : Int32} {ia : Nat → Nat → Int32} {la : Nat → Nat → Int64} {pl dr : Nat} {cp : Nat} {cw : Nat} {rp : Option Nat} {K : Option Value → zHP → Prop}  : zWP (d + 1) 10 40 [some (.ref 102), some (.int i1), some (.int i2), some (.int i3), some (.int i4), none, none] [] (ia, la, zRA pl dr (some cp) (some cw) rp) K = zWM d 51 [.ref 103, .ref cp, .int i1] (ia, la, zRA pl dr (some cp) (some cw) rp) (zK (d + 1) 10 52 [some (.ref 102), some (.int i1), some (.int i2), some (.int i3), some (.int i4), none, none] [] K) := by
  refine (Q_aload_n zm_10 (Or.inl (by decide)) D10_40 rfl).trans ?_
  refine (Q_getR (q := 103) zm_10 (Or.inl (by decide)) D10_41 zf_0_12 zs_0_0 zk_102.1 rfl).trans ?_
  refine (Q_aload_n zm_10 (Or.inl (by decide)) D10_44 rfl).trans ?_
  refine (Q_getR (q := cp) zm_10 (Or.inl (by decide)) D10_45 zf_0_18 zs_0_1 zk_102.1 rfl).trans ?_
  refine (Q_iload_n zm_10 (Or.inl (by decide)) D10_48 rfl).trans ?_
  exact Q_callv (as := [.ref cp, .int i1]) (b := 103) (rest := []) zm_10 (Or.inl (by decide)) D10_49 zc_0_171 rfl zk_103.1 (by decide) (by decide +kernel) (by decide) (by simp [zcat, Value.category]) zm_51 rfl

theorem b10_52 {d : Nat} {i1 : Int32} {i2 : Int32} {i3 : Int32} {i4 : Int32} {t0 : Int64} {ia : Nat → Nat → Int32} {la : Nat → Nat → Int64} {pl dr : Nat} {cp : Nat} {cw : Nat} {rp : Option Nat} {K : Option Value → zHP → Prop}  : zWP (d + 5) 10 52 [some (.ref 102), some (.int i1), some (.int i2), some (.int i3), some (.int i4), none, none] [.long t0] (ia, la, zRA pl dr (some cp) (some cw) rp) K = (if ¬ (lg_cmp t0 (-9223372036854775808 : Int64)) = 0 then (if ¬ i1 = (1 : Int32) then K (some (.int ((if (if t0 < (999 : Int64) then t0 else (999 : Int64)) < (0 : Int64) then (0 : Int64) else (if t0 < (999 : Int64) then t0 else (999 : Int64)))).toInt32)) (ia, la, zRA pl dr (some cp) (some cw) rp) else K (some (.int ((if (if t0 < (1000 : Int64) then t0 else (1000 : Int64)) < (0 : Int64) then (0 : Int64) else (if t0 < (1000 : Int64) then t0 else (1000 : Int64)))).toInt32)) (ia, la, zRA pl dr (some cp) (some cw) rp)) else (if ¬ i1 = 0 then (if ¬ i1 = (1 : Int32) then K (some (.int (10 : Int32))) (ia, la, zRA pl dr (some cp) (some cw) rp) else K (some (.int ((10 : Int32) * (ia 102 4)))) (ia, la, zRA pl dr (some cp) (some cw) rp)) else K (some (.int i4)) (ia, la, zRA pl dr (some cp) (some cw) rp))) := by
  refine (Q_lstore (ls' := [some (.ref 102), some (.int i1), some (.int i2), some (.int i3), some (.int i4), some (.long t0), none]) zm_10 (Or.inl (by decide)) D10_52 rfl (Nat.le_of_ble_eq_true rfl) rfl).trans ?_
  refine (Q_lload zm_10 (Or.inl (by decide)) D10_54 rfl).trans ?_
  refine (Q_ldc2_w (v := -9223372036854775808) zm_10 (Or.inl (by decide)) D10_56 (by decide +kernel)).trans ?_
  refine (Q_lcmp zm_10 (Or.inl (by decide)) D10_59).trans ?_
  refine (Q_if_ne (tgt := 90) zm_10 (Or.inl (by decide)) D10_60 (by decide)).trans ?_
  refine zif_c (fun h0_ => ?_) (fun h0_ => ?_)
  · refine (Q_lconst (v := 0) zm_10 (Or.inl (by decide)) D10_90 (by decide)).trans ?_
    refine (Q_iload_n zm_10 (Or.inl (by decide)) D10_91 rfl).trans ?_
    refine (Q_iconst (v := 1) zm_10 (Or.inl (by decide)) D10_92 (by decide)).trans ?_
    refine (Q_ic_ne (tgt := 102) zm_10 (Or.inl (by decide)) D10_93 (by decide)).trans ?_
    refine zif_c (fun h1_ => ?_) (fun h1_ => ?_)
    · refine (Q_ldc2_w (v := 999) zm_10 (Or.inl (by decide)) D10_102 (by decide +kernel)).trans ?_
      refine (Q_lload zm_10 (Or.inl (by decide)) D10_105 rfl).trans ?_
      refine (Q_bis (as := [.long (999 : Int64), .long t0]) (rest := [.long (0 : Int64)]) zm_10 (Or.inl (by decide)) D10_107 zc_0_181 rfl (by decide) (by simp [zcat, Value.category]) rfl).trans ?_
      refine (Q_bis (as := [.long (0 : Int64), .long (if t0 < (999 : Int64) then t0 else (999 : Int64))]) (rest := []) zm_10 (Or.inl (by decide)) D10_110 zc_0_185 rfl (by decide) (by simp [zcat, Value.category]) rfl).trans ?_
      refine (Q_l2i zm_10 (Or.inl (by decide)) D10_113).trans ?_
      exact Q_ireturn zm_10 (Or.inl (by decide)) D10_114 rfl
    · refine (Q_ldc2_w (v := 1000) zm_10 (Or.inl (by decide)) D10_96 (by decide +kernel)).trans ?_
      refine (Q_goto (tgt := 105) zm_10 (Or.inl (by decide)) D10_99 (by decide)).trans ?_
      refine (Q_lload zm_10 (Or.inl (by decide)) D10_105 rfl).trans ?_
      refine (Q_bis (as := [.long (1000 : Int64), .long t0]) (rest := [.long (0 : Int64)]) zm_10 (Or.inl (by decide)) D10_107 zc_0_181 rfl (by decide) (by simp [zcat, Value.category]) rfl).trans ?_
      refine (Q_bis (as := [.long (0 : Int64), .long (if t0 < (1000 : Int64) then t0 else (1000 : Int64))]) (rest := []) zm_10 (Or.inl (by decide)) D10_110 zc_0_185 rfl (by decide) (by simp [zcat, Value.category]) rfl).trans ?_
      refine (Q_l2i zm_10 (Or.inl (by decide)) D10_113).trans ?_
      exact Q_ireturn zm_10 (Or.inl (by decide)) D10_114 rfl
  · refine (Q_iload_n zm_10 (Or.inl (by decide)) D10_63 rfl).trans ?_
    refine (Q_if_ne (tgt := 72) zm_10 (Or.inl (by decide)) D10_64 (by decide)).trans ?_
    refine zif_c (fun h2_ => ?_) (fun h2_ => ?_)
    · refine (Q_iload_n zm_10 (Or.inl (by decide)) D10_72 rfl).trans ?_
      refine (Q_iconst (v := 1) zm_10 (Or.inl (by decide)) D10_73 (by decide)).trans ?_
      refine (Q_ic_ne (tgt := 87) zm_10 (Or.inl (by decide)) D10_74 (by decide)).trans ?_
      refine zif_c (fun h3_ => ?_) (fun h3_ => ?_)
      · refine (Q_bipush (v := 10) zm_10 (Or.inl (by decide)) D10_87 (by decide)).trans ?_
        exact Q_ireturn zm_10 (Or.inl (by decide)) D10_89 rfl
      · refine (Q_bipush (v := 10) zm_10 (Or.inl (by decide)) D10_77 (by decide)).trans ?_
        refine (Q_aload_n zm_10 (Or.inl (by decide)) D10_79 rfl).trans ?_
        refine (Q_getI zm_10 (Or.inl (by decide)) D10_80 zf_0_36 (Or.inl zs_0_4) zk_102.1).trans ?_
        refine (Q_imul zm_10 (Or.inl (by decide)) D10_83).trans ?_
        refine (Q_goto (tgt := 89) zm_10 (Or.inl (by decide)) D10_84 (by decide)).trans ?_
        exact Q_ireturn zm_10 (Or.inl (by decide)) D10_89 rfl
    · refine (Q_iload zm_10 (Or.inl (by decide)) D10_67 rfl).trans ?_
      refine (Q_goto (tgt := 89) zm_10 (Or.inl (by decide)) D10_69 (by decide)).trans ?_
      exact Q_ireturn zm_10 (Or.inl (by decide)) D10_89 rfl

/-! HandsLet$Deeds.clear()V -/
theorem D11_0 : decode prog_3_method_2_code 0 = .ok (.aload_n 0, 1) := by decide +kernel
theorem D11_1 : decode prog_3_method_2_code 1 = .ok (.iconst 0, 1) := by decide +kernel
theorem D11_2 : decode prog_3_method_2_code 2 = .ok (.putfield 15, 3) := by decide +kernel
theorem D11_5 : decode prog_3_method_2_code 5 = .ok (.return_, 1) := by decide +kernel

theorem b11_0 {d : Nat}  {ia : Nat → Nat → Int32} {la : Nat → Nat → Int64} {pl dr : Nat} {cp : Option Nat} {cw : Option Nat} {rp : Option Nat} {K : Option Value → zHP → Prop}  : zWP d 11 0 [some (.ref 113)] [] (ia, la, zRA pl dr cp cw rp) K = K none ((zu ia 113 2 (0 : Int32)), la, zRA pl dr cp cw rp) := by
  refine (Q_aload_n zm_11 (Or.inl (by decide)) D11_0 rfl).trans ?_
  refine (Q_iconst (v := 0) zm_11 (Or.inl (by decide)) D11_1 (by decide)).trans ?_
  refine (Q_putI zm_11 (Or.inl (by decide)) D11_2 zf_1_15 zs_1_2 rfl zk_113.1).trans ?_
  exact Q_return zm_11 (Or.inl (by decide)) D11_5 rfl

/-! HandsLet$Deeds.note(LHandsLet$World;I)V -/
theorem D12_0 : decode prog_3_method_3_code 0 = .ok (.aload_n 0, 1) := by decide +kernel
theorem D12_1 : decode prog_3_method_3_code 1 = .ok (.getfield 19, 3) := by decide +kernel
theorem D12_4 : decode prog_3_method_3_code 4 = .ok (.bipush 13, 2) := by decide +kernel
theorem D12_6 : decode prog_3_method_3_code 6 = .ok (.imul, 1) := by decide +kernel
theorem D12_7 : decode prog_3_method_3_code 7 = .ok (.istore_n 3, 1) := by decide +kernel
theorem D12_8 : decode prog_3_method_3_code 8 = .ok (.aload_n 0, 1) := by decide +kernel
theorem D12_9 : decode prog_3_method_3_code 9 = .ok (.getfield 11, 3) := by decide +kernel
theorem D12_12 : decode prog_3_method_3_code 12 = .ok (.iload_n 3, 1) := by decide +kernel
theorem D12_13 : decode prog_3_method_3_code 13 = .ok (.iload_n 2, 1) := by decide +kernel
theorem D12_14 : decode prog_3_method_3_code 14 = .ok (.iastore, 1) := by decide +kernel
theorem D12_15 : decode prog_3_method_3_code 15 = .ok (.aload_n 0, 1) := by decide +kernel
theorem D12_16 : decode prog_3_method_3_code 16 = .ok (.getfield 11, 3) := by decide +kernel
theorem D12_19 : decode prog_3_method_3_code 19 = .ok (.iload_n 3, 1) := by decide +kernel
theorem D12_20 : decode prog_3_method_3_code 20 = .ok (.iconst 1, 1) := by decide +kernel
theorem D12_21 : decode prog_3_method_3_code 21 = .ok (.iadd, 1) := by decide +kernel
theorem D12_22 : decode prog_3_method_3_code 22 = .ok (.aload_n 1, 1) := by decide +kernel
theorem D12_23 : decode prog_3_method_3_code 23 = .ok (.getfield 22, 3) := by decide +kernel
theorem D12_26 : decode prog_3_method_3_code 26 = .ok (.iload_n 2, 1) := by decide +kernel
theorem D12_27 : decode prog_3_method_3_code 27 = .ok (.iaload, 1) := by decide +kernel
theorem D12_28 : decode prog_3_method_3_code 28 = .ok (.iastore, 1) := by decide +kernel
theorem D12_29 : decode prog_3_method_3_code 29 = .ok (.aload_n 0, 1) := by decide +kernel
theorem D12_30 : decode prog_3_method_3_code 30 = .ok (.getfield 11, 3) := by decide +kernel
theorem D12_33 : decode prog_3_method_3_code 33 = .ok (.iload_n 3, 1) := by decide +kernel
theorem D12_34 : decode prog_3_method_3_code 34 = .ok (.iconst 2, 1) := by decide +kernel
theorem D12_35 : decode prog_3_method_3_code 35 = .ok (.iadd, 1) := by decide +kernel
theorem D12_36 : decode prog_3_method_3_code 36 = .ok (.aload_n 1, 1) := by decide +kernel
theorem D12_37 : decode prog_3_method_3_code 37 = .ok (.getfield 27, 3) := by decide +kernel
theorem D12_40 : decode prog_3_method_3_code 40 = .ok (.iload_n 2, 1) := by decide +kernel
theorem D12_41 : decode prog_3_method_3_code 41 = .ok (.iaload, 1) := by decide +kernel
theorem D12_42 : decode prog_3_method_3_code 42 = .ok (.iastore, 1) := by decide +kernel
theorem D12_43 : decode prog_3_method_3_code 43 = .ok (.aload_n 0, 1) := by decide +kernel
theorem D12_44 : decode prog_3_method_3_code 44 = .ok (.getfield 11, 3) := by decide +kernel
theorem D12_47 : decode prog_3_method_3_code 47 = .ok (.iload_n 3, 1) := by decide +kernel
theorem D12_48 : decode prog_3_method_3_code 48 = .ok (.iconst 3, 1) := by decide +kernel
theorem D12_49 : decode prog_3_method_3_code 49 = .ok (.iadd, 1) := by decide +kernel
theorem D12_50 : decode prog_3_method_3_code 50 = .ok (.aload_n 1, 1) := by decide +kernel
theorem D12_51 : decode prog_3_method_3_code 51 = .ok (.getfield 30, 3) := by decide +kernel
theorem D12_54 : decode prog_3_method_3_code 54 = .ok (.iload_n 2, 1) := by decide +kernel
theorem D12_55 : decode prog_3_method_3_code 55 = .ok (.iaload, 1) := by decide +kernel
theorem D12_56 : decode prog_3_method_3_code 56 = .ok (.iastore, 1) := by decide +kernel
theorem D12_57 : decode prog_3_method_3_code 57 = .ok (.aload_n 1, 1) := by decide +kernel
theorem D12_58 : decode prog_3_method_3_code 58 = .ok (.getfield 33, 3) := by decide +kernel
theorem D12_61 : decode prog_3_method_3_code 61 = .ok (.iload_n 2, 1) := by decide +kernel
theorem D12_62 : decode prog_3_method_3_code 62 = .ok (.iconst 3, 1) := by decide +kernel
theorem D12_63 : decode prog_3_method_3_code 63 = .ok (.imul, 1) := by decide +kernel
theorem D12_64 : decode prog_3_method_3_code 64 = .ok (.aload_n 0, 1) := by decide +kernel
theorem D12_65 : decode prog_3_method_3_code 65 = .ok (.getfield 11, 3) := by decide +kernel
theorem D12_68 : decode prog_3_method_3_code 68 = .ok (.iload_n 3, 1) := by decide +kernel
theorem D12_69 : decode prog_3_method_3_code 69 = .ok (.iconst 4, 1) := by decide +kernel
theorem D12_70 : decode prog_3_method_3_code 70 = .ok (.iadd, 1) := by decide +kernel
theorem D12_71 : decode prog_3_method_3_code 71 = .ok (.iconst 3, 1) := by decide +kernel
theorem D12_72 : decode prog_3_method_3_code 72 = .ok (.invokestatic 36, 3) := by decide +kernel
theorem D12_75 : decode prog_3_method_3_code 75 = .ok (.aload_n 1, 1) := by decide +kernel
theorem D12_76 : decode prog_3_method_3_code 76 = .ok (.getfield 42, 3) := by decide +kernel
theorem D12_79 : decode prog_3_method_3_code 79 = .ok (.iconst 0, 1) := by decide +kernel
theorem D12_80 : decode prog_3_method_3_code 80 = .ok (.aload_n 0, 1) := by decide +kernel
theorem D12_81 : decode prog_3_method_3_code 81 = .ok (.getfield 11, 3) := by decide +kernel
theorem D12_84 : decode prog_3_method_3_code 84 = .ok (.iload_n 3, 1) := by decide +kernel
theorem D12_85 : decode prog_3_method_3_code 85 = .ok (.bipush 7, 2) := by decide +kernel
theorem D12_87 : decode prog_3_method_3_code 87 = .ok (.iadd, 1) := by decide +kernel
theorem D12_88 : decode prog_3_method_3_code 88 = .ok (.bipush 6, 2) := by decide +kernel
theorem D12_90 : decode prog_3_method_3_code 90 = .ok (.invokestatic 36, 3) := by decide +kernel
theorem D12_93 : decode prog_3_method_3_code 93 = .ok (.aload_n 0, 1) := by decide +kernel
theorem D12_94 : decode prog_3_method_3_code 94 = .ok (.aload_n 0, 1) := by decide +kernel
theorem D12_95 : decode prog_3_method_3_code 95 = .ok (.getfield 19, 3) := by decide +kernel
theorem D12_98 : decode prog_3_method_3_code 98 = .ok (.iconst 1, 1) := by decide +kernel
theorem D12_99 : decode prog_3_method_3_code 99 = .ok (.iadd, 1) := by decide +kernel
theorem D12_100 : decode prog_3_method_3_code 100 = .ok (.bipush 20, 2) := by decide +kernel
theorem D12_102 : decode prog_3_method_3_code 102 = .ok (.irem, 1) := by decide +kernel
theorem D12_103 : decode prog_3_method_3_code 103 = .ok (.putfield 19, 3) := by decide +kernel
theorem D12_106 : decode prog_3_method_3_code 106 = .ok (.aload_n 0, 1) := by decide +kernel
theorem D12_107 : decode prog_3_method_3_code 107 = .ok (.bipush 20, 2) := by decide +kernel
theorem D12_109 : decode prog_3_method_3_code 109 = .ok (.aload_n 0, 1) := by decide +kernel
theorem D12_110 : decode prog_3_method_3_code 110 = .ok (.getfield 15, 3) := by decide +kernel
theorem D12_113 : decode prog_3_method_3_code 113 = .ok (.iconst 1, 1) := by decide +kernel
theorem D12_114 : decode prog_3_method_3_code 114 = .ok (.iadd, 1) := by decide +kernel
theorem D12_115 : decode prog_3_method_3_code 115 = .ok (.invokestatic 45, 3) := by decide +kernel
theorem D12_118 : decode prog_3_method_3_code 118 = .ok (.putfield 15, 3) := by decide +kernel
theorem D12_121 : decode prog_3_method_3_code 121 = .ok (.return_, 1) := by decide +kernel

theorem b12_0 {d : Nat} {w1 : Nat} {i2 : Int32} {ia : Nat → Nat → Int32} {la : Nat → Nat → Int64} {pl dr : Nat} {cp : Option Nat} {cw : Option Nat} {rp : Option Nat} {K : Option Value → zHP → Prop} (hw1 : zIsW w1) : zWP (d + 5) 12 0 [some (.ref 113), some (.ref w1), some (.int i2), none] [] (ia, la, zRA pl dr cp cw rp) K = (vp_in ((ia 113 1) * (13 : Int32)) 260 ∧ (vp_in i2 6 ∧ (vp_in (((ia 113 1) * (13 : Int32)) + (1 : Int32)) 260 ∧ (vp_in (((ia 113 1) * (13 : Int32)) + (2 : Int32)) 260 ∧ (vp_in (((ia 113 1) * (13 : Int32)) + (3 : Int32)) 260 ∧ ((¬ (i2 * (3 : Int32)) < 0 ∧ ¬ (((ia 113 1) * (13 : Int32)) + (4 : Int32)) < 0 ∧ ¬ (3 : Int32) < 0 ∧ ((i2 * (3 : Int32))).toNatClampNeg + ((3 : Int32)).toNatClampNeg ≤ 18 ∧ ((((ia 113 1) * (13 : Int32)) + (4 : Int32))).toNatClampNeg + ((3 : Int32)).toNatClampNeg ≤ 260) ∧ ((¬ (0 : Int32) < 0 ∧ ¬ (((ia 113 1) * (13 : Int32)) + (7 : Int32)) < 0 ∧ ¬ (6 : Int32) < 0 ∧ ((0 : Int32)).toNatClampNeg + ((6 : Int32)).toNatClampNeg ≤ 6 ∧ ((((ia 113 1) * (13 : Int32)) + (7 : Int32))).toNatClampNeg + ((6 : Int32)).toNatClampNeg ≤ 260) ∧ K none ((zu (zu (zcp (zcp (zu (zu (zu (zu ia 114 (((ia 113 1) * (13 : Int32))).toNatClampNeg i2) 114 ((((ia 113 1) * (13 : Int32)) + (1 : Int32))).toNatClampNeg ((zu ia 114 (((ia 113 1) * (13 : Int32))).toNatClampNeg i2) (w1 + 3) (i2).toNatClampNeg)) 114 ((((ia 113 1) * (13 : Int32)) + (2 : Int32))).toNatClampNeg ((zu (zu ia 114 (((ia 113 1) * (13 : Int32))).toNatClampNeg i2) 114 ((((ia 113 1) * (13 : Int32)) + (1 : Int32))).toNatClampNeg ((zu ia 114 (((ia 113 1) * (13 : Int32))).toNatClampNeg i2) (w1 + 3) (i2).toNatClampNeg)) (w1 + 4) (i2).toNatClampNeg)) 114 ((((ia 113 1) * (13 : Int32)) + (3 : Int32))).toNatClampNeg ((zu (zu (zu ia 114 (((ia 113 1) * (13 : Int32))).toNatClampNeg i2) 114 ((((ia 113 1) * (13 : Int32)) + (1 : Int32))).toNatClampNeg ((zu ia 114 (((ia 113 1) * (13 : Int32))).toNatClampNeg i2) (w1 + 3) (i2).toNatClampNeg)) 114 ((((ia 113 1) * (13 : Int32)) + (2 : Int32))).toNatClampNeg ((zu (zu ia 114 (((ia 113 1) * (13 : Int32))).toNatClampNeg i2) 114 ((((ia 113 1) * (13 : Int32)) + (1 : Int32))).toNatClampNeg ((zu ia 114 (((ia 113 1) * (13 : Int32))).toNatClampNeg i2) (w1 + 3) (i2).toNatClampNeg)) (w1 + 4) (i2).toNatClampNeg)) (w1 + 5) (i2).toNatClampNeg)) (w1 + 2) 114 (i2 * (3 : Int32)) (((ia 113 1) * (13 : Int32)) + (4 : Int32)) (3 : Int32)) (w1 + 1) 114 (0 : Int32) (((ia 113 1) * (13 : Int32)) + (7 : Int32)) (6 : Int32)) 113 1 ((((zcp (zcp (zu (zu (zu (zu ia 114 (((ia 113 1) * (13 : Int32))).toNatClampNeg i2) 114 ((((ia 113 1) * (13 : Int32)) + (1 : Int32))).toNatClampNeg ((zu ia 114 (((ia 113 1) * (13 : Int32))).toNatClampNeg i2) (w1 + 3) (i2).toNatClampNeg)) 114 ((((ia 113 1) * (13 : Int32)) + (2 : Int32))).toNatClampNeg ((zu (zu ia 114 (((ia 113 1) * (13 : Int32))).toNatClampNeg i2) 114 ((((ia 113 1) * (13 : Int32)) + (1 : Int32))).toNatClampNeg ((zu ia 114 (((ia 113 1) * (13 : Int32))).toNatClampNeg i2) (w1 + 3) (i2).toNatClampNeg)) (w1 + 4) (i2).toNatClampNeg)) 114 ((((ia 113 1) * (13 : Int32)) + (3 : Int32))).toNatClampNeg ((zu (zu (zu ia 114 (((ia 113 1) * (13 : Int32))).toNatClampNeg i2) 114 ((((ia 113 1) * (13 : Int32)) + (1 : Int32))).toNatClampNeg ((zu ia 114 (((ia 113 1) * (13 : Int32))).toNatClampNeg i2) (w1 + 3) (i2).toNatClampNeg)) 114 ((((ia 113 1) * (13 : Int32)) + (2 : Int32))).toNatClampNeg ((zu (zu ia 114 (((ia 113 1) * (13 : Int32))).toNatClampNeg i2) 114 ((((ia 113 1) * (13 : Int32)) + (1 : Int32))).toNatClampNeg ((zu ia 114 (((ia 113 1) * (13 : Int32))).toNatClampNeg i2) (w1 + 3) (i2).toNatClampNeg)) (w1 + 4) (i2).toNatClampNeg)) (w1 + 5) (i2).toNatClampNeg)) (w1 + 2) 114 (i2 * (3 : Int32)) (((ia 113 1) * (13 : Int32)) + (4 : Int32)) (3 : Int32)) (w1 + 1) 114 (0 : Int32) (((ia 113 1) * (13 : Int32)) + (7 : Int32)) (6 : Int32)) 113 1) + (1 : Int32)) - (((zcp (zcp (zu (zu (zu (zu ia 114 (((ia 113 1) * (13 : Int32))).toNatClampNeg i2) 114 ((((ia 113 1) * (13 : Int32)) + (1 : Int32))).toNatClampNeg ((zu ia 114 (((ia 113 1) * (13 : Int32))).toNatClampNeg i2) (w1 + 3) (i2).toNatClampNeg)) 114 ((((ia 113 1) * (13 : Int32)) + (2 : Int32))).toNatClampNeg ((zu (zu ia 114 (((ia 113 1) * (13 : Int32))).toNatClampNeg i2) 114 ((((ia 113 1) * (13 : Int32)) + (1 : Int32))).toNatClampNeg ((zu ia 114 (((ia 113 1) * (13 : Int32))).toNatClampNeg i2) (w1 + 3) (i2).toNatClampNeg)) (w1 + 4) (i2).toNatClampNeg)) 114 ((((ia 113 1) * (13 : Int32)) + (3 : Int32))).toNatClampNeg ((zu (zu (zu ia 114 (((ia 113 1) * (13 : Int32))).toNatClampNeg i2) 114 ((((ia 113 1) * (13 : Int32)) + (1 : Int32))).toNatClampNeg ((zu ia 114 (((ia 113 1) * (13 : Int32))).toNatClampNeg i2) (w1 + 3) (i2).toNatClampNeg)) 114 ((((ia 113 1) * (13 : Int32)) + (2 : Int32))).toNatClampNeg ((zu (zu ia 114 (((ia 113 1) * (13 : Int32))).toNatClampNeg i2) 114 ((((ia 113 1) * (13 : Int32)) + (1 : Int32))).toNatClampNeg ((zu ia 114 (((ia 113 1) * (13 : Int32))).toNatClampNeg i2) (w1 + 3) (i2).toNatClampNeg)) (w1 + 4) (i2).toNatClampNeg)) (w1 + 5) (i2).toNatClampNeg)) (w1 + 2) 114 (i2 * (3 : Int32)) (((ia 113 1) * (13 : Int32)) + (4 : Int32)) (3 : Int32)) (w1 + 1) 114 (0 : Int32) (((ia 113 1) * (13 : Int32)) + (7 : Int32)) (6 : Int32)) 113 1) + (1 : Int32)) / (20 : Int32) * (20 : Int32))) 113 2 (if (((zu (zcp (zcp (zu (zu (zu (zu ia 114 (((ia 113 1) * (13 : Int32))).toNatClampNeg i2) 114 ((((ia 113 1) * (13 : Int32)) + (1 : Int32))).toNatClampNeg ((zu ia 114 (((ia 113 1) * (13 : Int32))).toNatClampNeg i2) (w1 + 3) (i2).toNatClampNeg)) 114 ((((ia 113 1) * (13 : Int32)) + (2 : Int32))).toNatClampNeg ((zu (zu ia 114 (((ia 113 1) * (13 : Int32))).toNatClampNeg i2) 114 ((((ia 113 1) * (13 : Int32)) + (1 : Int32))).toNatClampNeg ((zu ia 114 (((ia 113 1) * (13 : Int32))).toNatClampNeg i2) (w1 + 3) (i2).toNatClampNeg)) (w1 + 4) (i2).toNatClampNeg)) 114 ((((ia 113 1) * (13 : Int32)) + (3 : Int32))).toNatClampNeg ((zu (zu (zu ia 114 (((ia 113 1) * (13 : Int32))).toNatClampNeg i2) 114 ((((ia 113 1) * (13 : Int32)) + (1 : Int32))).toNatClampNeg ((zu ia 114 (((ia 113 1) * (13 : Int32))).toNatClampNeg i2) (w1 + 3) (i2).toNatClampNeg)) 114 ((((ia 113 1) * (13 : Int32)) + (2 : Int32))).toNatClampNeg ((zu (zu ia 114 (((ia 113 1) * (13 : Int32))).toNatClampNeg i2) 114 ((((ia 113 1) * (13 : Int32)) + (1 : Int32))).toNatClampNeg ((zu ia 114 (((ia 113 1) * (13 : Int32))).toNatClampNeg i2) (w1 + 3) (i2).toNatClampNeg)) (w1 + 4) (i2).toNatClampNeg)) (w1 + 5) (i2).toNatClampNeg)) (w1 + 2) 114 (i2 * (3 : Int32)) (((ia 113 1) * (13 : Int32)) + (4 : Int32)) (3 : Int32)) (w1 + 1) 114 (0 : Int32) (((ia 113 1) * (13 : Int32)) + (7 : Int32)) (6 : Int32)) 113 1 ((((zcp (zcp (zu (zu (zu (zu ia 114 (((ia 113 1) * (13 : Int32))).toNatClampNeg i2) 114 ((((ia 113 1) * (13 : Int32)) + (1 : Int32))).toNatClampNeg ((zu ia 114 (((ia 113 1) * (13 : Int32))).toNatClampNeg i2) (w1 + 3) (i2).toNatClampNeg)) 114 ((((ia 113 1) * (13 : Int32)) + (2 : Int32))).toNatClampNeg ((zu (zu ia 114 (((ia 113 1) * (13 : Int32))).toNatClampNeg i2) 114 ((((ia 113 1) * (13 : Int32)) + (1 : Int32))).toNatClampNeg ((zu ia 114 (((ia 113 1) * (13 : Int32))).toNatClampNeg i2) (w1 + 3) (i2).toNatClampNeg)) (w1 + 4) (i2).toNatClampNeg)) 114 ((((ia 113 1) * (13 : Int32)) + (3 : Int32))).toNatClampNeg ((zu (zu (zu ia 114 (((ia 113 1) * (13 : Int32))).toNatClampNeg i2) 114 ((((ia 113 1) * (13 : Int32)) + (1 : Int32))).toNatClampNeg ((zu ia 114 (((ia 113 1) * (13 : Int32))).toNatClampNeg i2) (w1 + 3) (i2).toNatClampNeg)) 114 ((((ia 113 1) * (13 : Int32)) + (2 : Int32))).toNatClampNeg ((zu (zu ia 114 (((ia 113 1) * (13 : Int32))).toNatClampNeg i2) 114 ((((ia 113 1) * (13 : Int32)) + (1 : Int32))).toNatClampNeg ((zu ia 114 (((ia 113 1) * (13 : Int32))).toNatClampNeg i2) (w1 + 3) (i2).toNatClampNeg)) (w1 + 4) (i2).toNatClampNeg)) (w1 + 5) (i2).toNatClampNeg)) (w1 + 2) 114 (i2 * (3 : Int32)) (((ia 113 1) * (13 : Int32)) + (4 : Int32)) (3 : Int32)) (w1 + 1) 114 (0 : Int32) (((ia 113 1) * (13 : Int32)) + (7 : Int32)) (6 : Int32)) 113 1) + (1 : Int32)) - (((zcp (zcp (zu (zu (zu (zu ia 114 (((ia 113 1) * (13 : Int32))).toNatClampNeg i2) 114 ((((ia 113 1) * (13 : Int32)) + (1 : Int32))).toNatClampNeg ((zu ia 114 (((ia 113 1) * (13 : Int32))).toNatClampNeg i2) (w1 + 3) (i2).toNatClampNeg)) 114 ((((ia 113 1) * (13 : Int32)) + (2 : Int32))).toNatClampNeg ((zu (zu ia 114 (((ia 113 1) * (13 : Int32))).toNatClampNeg i2) 114 ((((ia 113 1) * (13 : Int32)) + (1 : Int32))).toNatClampNeg ((zu ia 114 (((ia 113 1) * (13 : Int32))).toNatClampNeg i2) (w1 + 3) (i2).toNatClampNeg)) (w1 + 4) (i2).toNatClampNeg)) 114 ((((ia 113 1) * (13 : Int32)) + (3 : Int32))).toNatClampNeg ((zu (zu (zu ia 114 (((ia 113 1) * (13 : Int32))).toNatClampNeg i2) 114 ((((ia 113 1) * (13 : Int32)) + (1 : Int32))).toNatClampNeg ((zu ia 114 (((ia 113 1) * (13 : Int32))).toNatClampNeg i2) (w1 + 3) (i2).toNatClampNeg)) 114 ((((ia 113 1) * (13 : Int32)) + (2 : Int32))).toNatClampNeg ((zu (zu ia 114 (((ia 113 1) * (13 : Int32))).toNatClampNeg i2) 114 ((((ia 113 1) * (13 : Int32)) + (1 : Int32))).toNatClampNeg ((zu ia 114 (((ia 113 1) * (13 : Int32))).toNatClampNeg i2) (w1 + 3) (i2).toNatClampNeg)) (w1 + 4) (i2).toNatClampNeg)) (w1 + 5) (i2).toNatClampNeg)) (w1 + 2) 114 (i2 * (3 : Int32)) (((ia 113 1) * (13 : Int32)) + (4 : Int32)) (3 : Int32)) (w1 + 1) 114 (0 : Int32) (((ia 113 1) * (13 : Int32)) + (7 : Int32)) (6 : Int32)) 113 1) + (1 : Int32)) / (20 : Int32) * (20 : Int32))) 113 2) + (1 : Int32)) < (20 : Int32) then (((zu (zcp (zcp (zu (zu (zu (zu ia 114 (((ia 113 1) * (13 : Int32))).toNatClampNeg i2) 114 ((((ia 113 1) * (13 : Int32)) + (1 : Int32))).toNatClampNeg ((zu ia 114 (((ia 113 1) * (13 : Int32))).toNatClampNeg i2) (w1 + 3) (i2).toNatClampNeg)) 114 ((((ia 113 1) * (13 : Int32)) + (2 : Int32))).toNatClampNeg ((zu (zu ia 114 (((ia 113 1) * (13 : Int32))).toNatClampNeg i2) 114 ((((ia 113 1) * (13 : Int32)) + (1 : Int32))).toNatClampNeg ((zu ia 114 (((ia 113 1) * (13 : Int32))).toNatClampNeg i2) (w1 + 3) (i2).toNatClampNeg)) (w1 + 4) (i2).toNatClampNeg)) 114 ((((ia 113 1) * (13 : Int32)) + (3 : Int32))).toNatClampNeg ((zu (zu (zu ia 114 (((ia 113 1) * (13 : Int32))).toNatClampNeg i2) 114 ((((ia 113 1) * (13 : Int32)) + (1 : Int32))).toNatClampNeg ((zu ia 114 (((ia 113 1) * (13 : Int32))).toNatClampNeg i2) (w1 + 3) (i2).toNatClampNeg)) 114 ((((ia 113 1) * (13 : Int32)) + (2 : Int32))).toNatClampNeg ((zu (zu ia 114 (((ia 113 1) * (13 : Int32))).toNatClampNeg i2) 114 ((((ia 113 1) * (13 : Int32)) + (1 : Int32))).toNatClampNeg ((zu ia 114 (((ia 113 1) * (13 : Int32))).toNatClampNeg i2) (w1 + 3) (i2).toNatClampNeg)) (w1 + 4) (i2).toNatClampNeg)) (w1 + 5) (i2).toNatClampNeg)) (w1 + 2) 114 (i2 * (3 : Int32)) (((ia 113 1) * (13 : Int32)) + (4 : Int32)) (3 : Int32)) (w1 + 1) 114 (0 : Int32) (((ia 113 1) * (13 : Int32)) + (7 : Int32)) (6 : Int32)) 113 1 ((((zcp (zcp (zu (zu (zu (zu ia 114 (((ia 113 1) * (13 : Int32))).toNatClampNeg i2) 114 ((((ia 113 1) * (13 : Int32)) + (1 : Int32))).toNatClampNeg ((zu ia 114 (((ia 113 1) * (13 : Int32))).toNatClampNeg i2) (w1 + 3) (i2).toNatClampNeg)) 114 ((((ia 113 1) * (13 : Int32)) + (2 : Int32))).toNatClampNeg ((zu (zu ia 114 (((ia 113 1) * (13 : Int32))).toNatClampNeg i2) 114 ((((ia 113 1) * (13 : Int32)) + (1 : Int32))).toNatClampNeg ((zu ia 114 (((ia 113 1) * (13 : Int32))).toNatClampNeg i2) (w1 + 3) (i2).toNatClampNeg)) (w1 + 4) (i2).toNatClampNeg)) 114 ((((ia 113 1) * (13 : Int32)) + (3 : Int32))).toNatClampNeg ((zu (zu (zu ia 114 (((ia 113 1) * (13 : Int32))).toNatClampNeg i2) 114 ((((ia 113 1) * (13 : Int32)) + (1 : Int32))).toNatClampNeg ((zu ia 114 (((ia 113 1) * (13 : Int32))).toNatClampNeg i2) (w1 + 3) (i2).toNatClampNeg)) 114 ((((ia 113 1) * (13 : Int32)) + (2 : Int32))).toNatClampNeg ((zu (zu ia 114 (((ia 113 1) * (13 : Int32))).toNatClampNeg i2) 114 ((((ia 113 1) * (13 : Int32)) + (1 : Int32))).toNatClampNeg ((zu ia 114 (((ia 113 1) * (13 : Int32))).toNatClampNeg i2) (w1 + 3) (i2).toNatClampNeg)) (w1 + 4) (i2).toNatClampNeg)) (w1 + 5) (i2).toNatClampNeg)) (w1 + 2) 114 (i2 * (3 : Int32)) (((ia 113 1) * (13 : Int32)) + (4 : Int32)) (3 : Int32)) (w1 + 1) 114 (0 : Int32) (((ia 113 1) * (13 : Int32)) + (7 : Int32)) (6 : Int32)) 113 1) + (1 : Int32)) - (((zcp (zcp (zu (zu (zu (zu ia 114 (((ia 113 1) * (13 : Int32))).toNatClampNeg i2) 114 ((((ia 113 1) * (13 : Int32)) + (1 : Int32))).toNatClampNeg ((zu ia 114 (((ia 113 1) * (13 : Int32))).toNatClampNeg i2) (w1 + 3) (i2).toNatClampNeg)) 114 ((((ia 113 1) * (13 : Int32)) + (2 : Int32))).toNatClampNeg ((zu (zu ia 114 (((ia 113 1) * (13 : Int32))).toNatClampNeg i2) 114 ((((ia 113 1) * (13 : Int32)) + (1 : Int32))).toNatClampNeg ((zu ia 114 (((ia 113 1) * (13 : Int32))).toNatClampNeg i2) (w1 + 3) (i2).toNatClampNeg)) (w1 + 4) (i2).toNatClampNeg)) 114 ((((ia 113 1) * (13 : Int32)) + (3 : Int32))).toNatClampNeg ((zu (zu (zu ia 114 (((ia 113 1) * (13 : Int32))).toNatClampNeg i2) 114 ((((ia 113 1) * (13 : Int32)) + (1 : Int32))).toNatClampNeg ((zu ia 114 (((ia 113 1) * (13 : Int32))).toNatClampNeg i2) (w1 + 3) (i2).toNatClampNeg)) 114 ((((ia 113 1) * (13 : Int32)) + (2 : Int32))).toNatClampNeg ((zu (zu ia 114 (((ia 113 1) * (13 : Int32))).toNatClampNeg i2) 114 ((((ia 113 1) * (13 : Int32)) + (1 : Int32))).toNatClampNeg ((zu ia 114 (((ia 113 1) * (13 : Int32))).toNatClampNeg i2) (w1 + 3) (i2).toNatClampNeg)) (w1 + 4) (i2).toNatClampNeg)) (w1 + 5) (i2).toNatClampNeg)) (w1 + 2) 114 (i2 * (3 : Int32)) (((ia 113 1) * (13 : Int32)) + (4 : Int32)) (3 : Int32)) (w1 + 1) 114 (0 : Int32) (((ia 113 1) * (13 : Int32)) + (7 : Int32)) (6 : Int32)) 113 1) + (1 : Int32)) / (20 : Int32) * (20 : Int32))) 113 2) + (1 : Int32)) else (20 : Int32))), la, zRA pl dr cp cw rp)))))))) := by
  refine (Q_aload_n zm_12 (Or.inl (by decide)) D12_0 rfl).trans ?_
  refine (Q_getI zm_12 (Or.inl (by decide)) D12_1 zf_1_19 (Or.inl zs_1_1) zk_113.1).trans ?_
  refine (Q_bipush (v := 13) zm_12 (Or.inl (by decide)) D12_4 (by decide)).trans ?_
  refine (Q_imul zm_12 (Or.inl (by decide)) D12_6).trans ?_
  refine (Q_istore_n (ls' := [some (.ref 113), some (.ref w1), some (.int i2), some (.int ((ia 113 1) * (13 : Int32)))]) zm_12 (Or.inl (by decide)) D12_7 rfl (Nat.le_of_ble_eq_true rfl) rfl).trans ?_
  refine (Q_aload_n zm_12 (Or.inl (by decide)) D12_8 rfl).trans ?_
  refine (Q_getR (q := 114) zm_12 (Or.inl (by decide)) D12_9 zf_1_11 zs_1_0 zk_113.1 rfl).trans ?_
  refine (Q_iload_n zm_12 (Or.inl (by decide)) D12_12 rfl).trans ?_
  refine (Q_iload_n zm_12 (Or.inl (by decide)) D12_13 rfl).trans ?_
  refine (Q_iastore zm_12 (Or.inl (by decide)) D12_14 zk_114.1 zk_114.2).trans ?_
  refine zand_c (fun h0_ => ?_)
  refine (Q_aload_n zm_12 (Or.inl (by decide)) D12_15 rfl).trans ?_
  refine (Q_getR (q := 114) zm_12 (Or.inl (by decide)) D12_16 zf_1_11 zs_1_0 zk_113.1 rfl).trans ?_
  refine (Q_iload_n zm_12 (Or.inl (by decide)) D12_19 rfl).trans ?_
  refine (Q_iconst (v := 1) zm_12 (Or.inl (by decide)) D12_20 (by decide)).trans ?_
  refine (Q_iadd zm_12 (Or.inl (by decide)) D12_21).trans ?_
  refine (Q_aload_n zm_12 (Or.inl (by decide)) D12_22 rfl).trans ?_
  refine (Q_getR (q := (w1 + 3)) zm_12 (Or.inl (by decide)) D12_23 zf_1_22 zs_8_4 (zkw_0 hw1).1 (zrw_4 hw1)).trans ?_
  refine (Q_iload_n zm_12 (Or.inl (by decide)) D12_26 rfl).trans ?_
  refine (Q_iaload zm_12 (Or.inl (by decide)) D12_27 (zkw_3 hw1).1 (zkw_3 hw1).2).trans ?_
  refine zand_c (fun h1_ => ?_)
  refine (Q_iastore zm_12 (Or.inl (by decide)) D12_28 zk_114.1 zk_114.2).trans ?_
  refine zand_c (fun h2_ => ?_)
  refine (Q_aload_n zm_12 (Or.inl (by decide)) D12_29 rfl).trans ?_
  refine (Q_getR (q := 114) zm_12 (Or.inl (by decide)) D12_30 zf_1_11 zs_1_0 zk_113.1 rfl).trans ?_
  refine (Q_iload_n zm_12 (Or.inl (by decide)) D12_33 rfl).trans ?_
  refine (Q_iconst (v := 2) zm_12 (Or.inl (by decide)) D12_34 (by decide)).trans ?_
  refine (Q_iadd zm_12 (Or.inl (by decide)) D12_35).trans ?_
  refine (Q_aload_n zm_12 (Or.inl (by decide)) D12_36 rfl).trans ?_
  refine (Q_getR (q := (w1 + 4)) zm_12 (Or.inl (by decide)) D12_37 zf_1_27 zs_8_5 (zkw_0 hw1).1 (zrw_5 hw1)).trans ?_
  refine (Q_iload_n zm_12 (Or.inl (by decide)) D12_40 rfl).trans ?_
  refine ((Q_iaload zm_12 (Or.inl (by decide)) D12_41 (zkw_4 hw1).1 (zkw_4 hw1).2).trans (zdrop h1_)).trans ?_
  refine (Q_iastore zm_12 (Or.inl (by decide)) D12_42 zk_114.1 zk_114.2).trans ?_
  refine zand_c (fun h3_ => ?_)
  refine (Q_aload_n zm_12 (Or.inl (by decide)) D12_43 rfl).trans ?_
  refine (Q_getR (q := 114) zm_12 (Or.inl (by decide)) D12_44 zf_1_11 zs_1_0 zk_113.1 rfl).trans ?_
  refine (Q_iload_n zm_12 (Or.inl (by decide)) D12_47 rfl).trans ?_
  refine (Q_iconst (v := 3) zm_12 (Or.inl (by decide)) D12_48 (by decide)).trans ?_
  refine (Q_iadd zm_12 (Or.inl (by decide)) D12_49).trans ?_
  refine (Q_aload_n zm_12 (Or.inl (by decide)) D12_50 rfl).trans ?_
  refine (Q_getR (q := (w1 + 5)) zm_12 (Or.inl (by decide)) D12_51 zf_1_30 zs_8_6 (zkw_0 hw1).1 (zrw_6 hw1)).trans ?_
  refine (Q_iload_n zm_12 (Or.inl (by decide)) D12_54 rfl).trans ?_
  refine ((Q_iaload zm_12 (Or.inl (by decide)) D12_55 (zkw_5 hw1).1 (zkw_5 hw1).2).trans (zdrop h1_)).trans ?_
  refine (Q_iastore zm_12 (Or.inl (by decide)) D12_56 zk_114.1 zk_114.2).trans ?_
  refine zand_c (fun h4_ => ?_)
  refine (Q_aload_n zm_12 (Or.inl (by decide)) D12_57 rfl).trans ?_
  refine (Q_getR (q := (w1 + 2)) zm_12 (Or.inl (by decide)) D12_58 zf_1_33 zs_8_3 (zkw_0 hw1).1 (zrw_3 hw1)).trans ?_
  refine (Q_iload_n zm_12 (Or.inl (by decide)) D12_61 rfl).trans ?_
  refine (Q_iconst (v := 3) zm_12 (Or.inl (by decide)) D12_62 (by decide)).trans ?_
  refine (Q_imul zm_12 (Or.inl (by decide)) D12_63).trans ?_
  refine (Q_aload_n zm_12 (Or.inl (by decide)) D12_64 rfl).trans ?_
  refine (Q_getR (q := 114) zm_12 (Or.inl (by decide)) D12_65 zf_1_11 zs_1_0 zk_113.1 rfl).trans ?_
  refine (Q_iload_n zm_12 (Or.inl (by decide)) D12_68 rfl).trans ?_
  refine (Q_iconst (v := 4) zm_12 (Or.inl (by decide)) D12_69 (by decide)).trans ?_
  refine (Q_iadd zm_12 (Or.inl (by decide)) D12_70).trans ?_
  refine (Q_iconst (v := 3) zm_12 (Or.inl (by decide)) D12_71 (by decide)).trans ?_
  refine (Q_acopy (rest := []) zm_12 (Or.inl (by decide)) D12_72 zc_1_36 (zkw_2 hw1).1 zk_114.1 (zkw_2 hw1).2 zk_114.2 (by simp [zcat, Value.category])).trans ?_
  refine zand_c (fun h5_ => ?_)
  refine (Q_aload_n zm_12 (Or.inl (by decide)) D12_75 rfl).trans ?_
  refine (Q_getR (q := (w1 + 1)) zm_12 (Or.inl (by decide)) D12_76 zf_1_42 zs_8_2 (zkw_0 hw1).1 (zrw_2 hw1)).trans ?_
  refine (Q_iconst (v := 0) zm_12 (Or.inl (by decide)) D12_79 (by decide)).trans ?_
  refine (Q_aload_n zm_12 (Or.inl (by decide)) D12_80 rfl).trans ?_
  refine (Q_getR (q := 114) zm_12 (Or.inl (by decide)) D12_81 zf_1_11 zs_1_0 zk_113.1 rfl).trans ?_
  refine (Q_iload_n zm_12 (Or.inl (by decide)) D12_84 rfl).trans ?_
  refine (Q_bipush (v := 7) zm_12 (Or.inl (by decide)) D12_85 (by decide)).trans ?_
  refine (Q_iadd zm_12 (Or.inl (by decide)) D12_87).trans ?_
  refine (Q_bipush (v := 6) zm_12 (Or.inl (by decide)) D12_88 (by decide)).trans ?_
  refine (Q_acopy (rest := []) zm_12 (Or.inl (by decide)) D12_90 zc_1_36 (zkw_1 hw1).1 zk_114.1 (zkw_1 hw1).2 zk_114.2 (by simp [zcat, Value.category])).trans ?_
  refine zand_c (fun h6_ => ?_)
  refine (Q_aload_n zm_12 (Or.inl (by decide)) D12_93 rfl).trans ?_
  refine (Q_aload_n zm_12 (Or.inl (by decide)) D12_94 rfl).trans ?_
  refine (Q_getI zm_12 (Or.inl (by decide)) D12_95 zf_1_19 (Or.inl zs_1_1) zk_113.1).trans ?_
  refine (Q_iconst (v := 1) zm_12 (Or.inl (by decide)) D12_98 (by decide)).trans ?_
  refine (Q_iadd zm_12 (Or.inl (by decide)) D12_99).trans ?_
  refine (Q_bipush (v := 20) zm_12 (Or.inl (by decide)) D12_100 (by decide)).trans ?_
  refine (Q_irem zm_12 (Or.inl (by decide)) D12_102 (by decide)).trans ?_
  refine (Q_putI zm_12 (Or.inl (by decide)) D12_103 zf_1_19 zs_1_1 rfl zk_113.1).trans ?_
  refine (Q_aload_n zm_12 (Or.inl (by decide)) D12_106 rfl).trans ?_
  refine (Q_bipush (v := 20) zm_12 (Or.inl (by decide)) D12_107 (by decide)).trans ?_
  refine (Q_aload_n zm_12 (Or.inl (by decide)) D12_109 rfl).trans ?_
  refine (Q_getI zm_12 (Or.inl (by decide)) D12_110 zf_1_15 (Or.inl zs_1_2) zk_113.1).trans ?_
  refine (Q_iconst (v := 1) zm_12 (Or.inl (by decide)) D12_113 (by decide)).trans ?_
  refine (Q_iadd zm_12 (Or.inl (by decide)) D12_114).trans ?_
  refine (Q_bis (as := [.int (20 : Int32), .int (((zu (zcp (zcp (zu (zu (zu (zu ia 114 (((ia 113 1) * (13 : Int32))).toNatClampNeg i2) 114 ((((ia 113 1) * (13 : Int32)) + (1 : Int32))).toNatClampNeg ((zu ia 114 (((ia 113 1) * (13 : Int32))).toNatClampNeg i2) (w1 + 3) (i2).toNatClampNeg)) 114 ((((ia 113 1) * (13 : Int32)) + (2 : Int32))).toNatClampNeg ((zu (zu ia 114 (((ia 113 1) * (13 : Int32))).toNatClampNeg i2) 114 ((((ia 113 1) * (13 : Int32)) + (1 : Int32))).toNatClampNeg ((zu ia 114 (((ia 113 1) * (13 : Int32))).toNatClampNeg i2) (w1 + 3) (i2).toNatClampNeg)) (w1 + 4) (i2).toNatClampNeg)) 114 ((((ia 113 1) * (13 : Int32)) + (3 : Int32))).toNatClampNeg ((zu (zu (zu ia 114 (((ia 113 1) * (13 : Int32))).toNatClampNeg i2) 114 ((((ia 113 1) * (13 : Int32)) + (1 : Int32))).toNatClampNeg ((zu ia 114 (((ia 113 1) * (13 : Int32))).toNatClampNeg i2) (w1 + 3) (i2).toNatClampNeg)) 114 ((((ia 113 1) * (13 : Int32)) + (2 : Int32))).toNatClampNeg ((zu (zu ia 114 (((ia 113 1) * (13 : Int32))).toNatClampNeg i2) 114 ((((ia 113 1) * (13 : Int32)) + (1 : Int32))).toNatClampNeg ((zu ia 114 (((ia 113 1) * (13 : Int32))).toNatClampNeg i2) (w1 + 3) (i2).toNatClampNeg)) (w1 + 4) (i2).toNatClampNeg)) (w1 + 5) (i2).toNatClampNeg)) (w1 + 2) 114 (i2 * (3 : Int32)) (((ia 113 1) * (13 : Int32)) + (4 : Int32)) (3 : Int32)) (w1 + 1) 114 (0 : Int32) (((ia 113 1) * (13 : Int32)) + (7 : Int32)) (6 : Int32)) 113 1 ((((zcp (zcp (zu (zu (zu (zu ia 114 (((ia 113 1) * (13 : Int32))).toNatClampNeg i2) 114 ((((ia 113 1) * (13 : Int32)) + (1 : Int32))).toNatClampNeg ((zu ia 114 (((ia 113 1) * (13 : Int32))).toNatClampNeg i2) (w1 + 3) (i2).toNatClampNeg)) 114 ((((ia 113 1) * (13 : Int32)) + (2 : Int32))).toNatClampNeg ((zu (zu ia 114 (((ia 113 1) * (13 : Int32))).toNatClampNeg i2) 114 ((((ia 113 1) * (13 : Int32)) + (1 : Int32))).toNatClampNeg ((zu ia 114 (((ia 113 1) * (13 : Int32))).toNatClampNeg i2) (w1 + 3) (i2).toNatClampNeg)) (w1 + 4) (i2).toNatClampNeg)) 114 ((((ia 113 1) * (13 : Int32)) + (3 : Int32))).toNatClampNeg ((zu (zu (zu ia 114 (((ia 113 1) * (13 : Int32))).toNatClampNeg i2) 114 ((((ia 113 1) * (13 : Int32)) + (1 : Int32))).toNatClampNeg ((zu ia 114 (((ia 113 1) * (13 : Int32))).toNatClampNeg i2) (w1 + 3) (i2).toNatClampNeg)) 114 ((((ia 113 1) * (13 : Int32)) + (2 : Int32))).toNatClampNeg ((zu (zu ia 114 (((ia 113 1) * (13 : Int32))).toNatClampNeg i2) 114 ((((ia 113 1) * (13 : Int32)) + (1 : Int32))).toNatClampNeg ((zu ia 114 (((ia 113 1) * (13 : Int32))).toNatClampNeg i2) (w1 + 3) (i2).toNatClampNeg)) (w1 + 4) (i2).toNatClampNeg)) (w1 + 5) (i2).toNatClampNeg)) (w1 + 2) 114 (i2 * (3 : Int32)) (((ia 113 1) * (13 : Int32)) + (4 : Int32)) (3 : Int32)) (w1 + 1) 114 (0 : Int32) (((ia 113 1) * (13 : Int32)) + (7 : Int32)) (6 : Int32)) 113 1) + (1 : Int32)) - (((zcp (zcp (zu (zu (zu (zu ia 114 (((ia 113 1) * (13 : Int32))).toNatClampNeg i2) 114 ((((ia 113 1) * (13 : Int32)) + (1 : Int32))).toNatClampNeg ((zu ia 114 (((ia 113 1) * (13 : Int32))).toNatClampNeg i2) (w1 + 3) (i2).toNatClampNeg)) 114 ((((ia 113 1) * (13 : Int32)) + (2 : Int32))).toNatClampNeg ((zu (zu ia 114 (((ia 113 1) * (13 : Int32))).toNatClampNeg i2) 114 ((((ia 113 1) * (13 : Int32)) + (1 : Int32))).toNatClampNeg ((zu ia 114 (((ia 113 1) * (13 : Int32))).toNatClampNeg i2) (w1 + 3) (i2).toNatClampNeg)) (w1 + 4) (i2).toNatClampNeg)) 114 ((((ia 113 1) * (13 : Int32)) + (3 : Int32))).toNatClampNeg ((zu (zu (zu ia 114 (((ia 113 1) * (13 : Int32))).toNatClampNeg i2) 114 ((((ia 113 1) * (13 : Int32)) + (1 : Int32))).toNatClampNeg ((zu ia 114 (((ia 113 1) * (13 : Int32))).toNatClampNeg i2) (w1 + 3) (i2).toNatClampNeg)) 114 ((((ia 113 1) * (13 : Int32)) + (2 : Int32))).toNatClampNeg ((zu (zu ia 114 (((ia 113 1) * (13 : Int32))).toNatClampNeg i2) 114 ((((ia 113 1) * (13 : Int32)) + (1 : Int32))).toNatClampNeg ((zu ia 114 (((ia 113 1) * (13 : Int32))).toNatClampNeg i2) (w1 + 3) (i2).toNatClampNeg)) (w1 + 4) (i2).toNatClampNeg)) (w1 + 5) (i2).toNatClampNeg)) (w1 + 2) 114 (i2 * (3 : Int32)) (((ia 113 1) * (13 : Int32)) + (4 : Int32)) (3 : Int32)) (w1 + 1) 114 (0 : Int32) (((ia 113 1) * (13 : Int32)) + (7 : Int32)) (6 : Int32)) 113 1) + (1 : Int32)) / (20 : Int32) * (20 : Int32))) 113 2) + (1 : Int32))]) (rest := [.ref 113]) zm_12 (Or.inl (by decide)) D12_115 zc_1_45 rfl (by decide) (by simp [zcat, Value.category]) rfl).trans ?_
  refine (Q_putI zm_12 (Or.inl (by decide)) D12_118 zf_1_15 zs_1_2 rfl zk_113.1).trans ?_
  exact Q_return zm_12 (Or.inl (by decide)) D12_121 rfl

/-! HandsLet$Deeds.takeBack(LHandsLet$World;)I -/
theorem D13_0 : decode prog_3_method_4_code 0 = .ok (.aload_n 0, 1) := by decide +kernel
theorem D13_1 : decode prog_3_method_4_code 1 = .ok (.getfield 15, 3) := by decide +kernel
theorem D13_4 : decode prog_3_method_4_code 4 = .ok (.ifCond .ne 5, 3) := by decide +kernel
theorem D13_7 : decode prog_3_method_4_code 7 = .ok (.iconst (-1), 1) := by decide +kernel
theorem D13_8 : decode prog_3_method_4_code 8 = .ok (.ireturn, 1) := by decide +kernel
theorem D13_9 : decode prog_3_method_4_code 9 = .ok (.aload_n 0, 1) := by decide +kernel
theorem D13_10 : decode prog_3_method_4_code 10 = .ok (.aload_n 0, 1) := by decide +kernel
theorem D13_11 : decode prog_3_method_4_code 11 = .ok (.getfield 19, 3) := by decide +kernel
theorem D13_14 : decode prog_3_method_4_code 14 = .ok (.bipush 20, 2) := by decide +kernel
theorem D13_16 : decode prog_3_method_4_code 16 = .ok (.iadd, 1) := by decide +kernel
theorem D13_17 : decode prog_3_method_4_code 17 = .ok (.iconst 1, 1) := by decide +kernel
theorem D13_18 : decode prog_3_method_4_code 18 = .ok (.isub, 1) := by decide +kernel
theorem D13_19 : decode prog_3_method_4_code 19 = .ok (.bipush 20, 2) := by decide +kernel
theorem D13_21 : decode prog_3_method_4_code 21 = .ok (.irem, 1) := by decide +kernel
theorem D13_22 : decode prog_3_method_4_code 22 = .ok (.putfield 19, 3) := by decide +kernel
theorem D13_25 : decode prog_3_method_4_code 25 = .ok (.aload_n 0, 1) := by decide +kernel
theorem D13_26 : decode prog_3_method_4_code 26 = .ok (.dup, 1) := by decide +kernel
theorem D13_27 : decode prog_3_method_4_code 27 = .ok (.getfield 15, 3) := by decide +kernel
theorem D13_30 : decode prog_3_method_4_code 30 = .ok (.iconst 1, 1) := by decide +kernel
theorem D13_31 : decode prog_3_method_4_code 31 = .ok (.isub, 1) := by decide +kernel
theorem D13_32 : decode prog_3_method_4_code 32 = .ok (.putfield 15, 3) := by decide +kernel
theorem D13_35 : decode prog_3_method_4_code 35 = .ok (.aload_n 0, 1) := by decide +kernel
theorem D13_36 : decode prog_3_method_4_code 36 = .ok (.getfield 19, 3) := by decide +kernel
theorem D13_39 : decode prog_3_method_4_code 39 = .ok (.bipush 13, 2) := by decide +kernel
theorem D13_41 : decode prog_3_method_4_code 41 = .ok (.imul, 1) := by decide +kernel
theorem D13_42 : decode prog_3_method_4_code 42 = .ok (.istore_n 2, 1) := by decide +kernel
theorem D13_43 : decode prog_3_method_4_code 43 = .ok (.aload_n 0, 1) := by decide +kernel
theorem D13_44 : decode prog_3_method_4_code 44 = .ok (.getfield 11, 3) := by decide +kernel
theorem D13_47 : decode prog_3_method_4_code 47 = .ok (.iload_n 2, 1) := by decide +kernel
theorem D13_48 : decode prog_3_method_4_code 48 = .ok (.iaload, 1) := by decide +kernel
theorem D13_49 : decode prog_3_method_4_code 49 = .ok (.istore_n 3, 1) := by decide +kernel
theorem D13_50 : decode prog_3_method_4_code 50 = .ok (.aload_n 1, 1) := by decide +kernel
theorem D13_51 : decode prog_3_method_4_code 51 = .ok (.getfield 22, 3) := by decide +kernel
theorem D13_54 : decode prog_3_method_4_code 54 = .ok (.iload_n 3, 1) := by decide +kernel
theorem D13_55 : decode prog_3_method_4_code 55 = .ok (.aload_n 0, 1) := by decide +kernel
theorem D13_56 : decode prog_3_method_4_code 56 = .ok (.getfield 11, 3) := by decide +kernel
theorem D13_59 : decode prog_3_method_4_code 59 = .ok (.iload_n 2, 1) := by decide +kernel
theorem D13_60 : decode prog_3_method_4_code 60 = .ok (.iconst 1, 1) := by decide +kernel
theorem D13_61 : decode prog_3_method_4_code 61 = .ok (.iadd, 1) := by decide +kernel
theorem D13_62 : decode prog_3_method_4_code 62 = .ok (.iaload, 1) := by decide +kernel
theorem D13_63 : decode prog_3_method_4_code 63 = .ok (.iastore, 1) := by decide +kernel
theorem D13_64 : decode prog_3_method_4_code 64 = .ok (.aload_n 1, 1) := by decide +kernel
theorem D13_65 : decode prog_3_method_4_code 65 = .ok (.getfield 27, 3) := by decide +kernel
theorem D13_68 : decode prog_3_method_4_code 68 = .ok (.iload_n 3, 1) := by decide +kernel
theorem D13_69 : decode prog_3_method_4_code 69 = .ok (.aload_n 0, 1) := by decide +kernel
theorem D13_70 : decode prog_3_method_4_code 70 = .ok (.getfield 11, 3) := by decide +kernel
theorem D13_73 : decode prog_3_method_4_code 73 = .ok (.iload_n 2, 1) := by decide +kernel
theorem D13_74 : decode prog_3_method_4_code 74 = .ok (.iconst 2, 1) := by decide +kernel
theorem D13_75 : decode prog_3_method_4_code 75 = .ok (.iadd, 1) := by decide +kernel
theorem D13_76 : decode prog_3_method_4_code 76 = .ok (.iaload, 1) := by decide +kernel
theorem D13_77 : decode prog_3_method_4_code 77 = .ok (.iastore, 1) := by decide +kernel
theorem D13_78 : decode prog_3_method_4_code 78 = .ok (.aload_n 1, 1) := by decide +kernel
theorem D13_79 : decode prog_3_method_4_code 79 = .ok (.getfield 30, 3) := by decide +kernel
theorem D13_82 : decode prog_3_method_4_code 82 = .ok (.iload_n 3, 1) := by decide +kernel
theorem D13_83 : decode prog_3_method_4_code 83 = .ok (.aload_n 0, 1) := by decide +kernel
theorem D13_84 : decode prog_3_method_4_code 84 = .ok (.getfield 11, 3) := by decide +kernel
theorem D13_87 : decode prog_3_method_4_code 87 = .ok (.iload_n 2, 1) := by decide +kernel
theorem D13_88 : decode prog_3_method_4_code 88 = .ok (.iconst 3, 1) := by decide +kernel
theorem D13_89 : decode prog_3_method_4_code 89 = .ok (.iadd, 1) := by decide +kernel
theorem D13_90 : decode prog_3_method_4_code 90 = .ok (.iaload, 1) := by decide +kernel
theorem D13_91 : decode prog_3_method_4_code 91 = .ok (.iastore, 1) := by decide +kernel
theorem D13_92 : decode prog_3_method_4_code 92 = .ok (.aload_n 0, 1) := by decide +kernel
theorem D13_93 : decode prog_3_method_4_code 93 = .ok (.getfield 11, 3) := by decide +kernel
theorem D13_96 : decode prog_3_method_4_code 96 = .ok (.iload_n 2, 1) := by decide +kernel
theorem D13_97 : decode prog_3_method_4_code 97 = .ok (.iconst 4, 1) := by decide +kernel
theorem D13_98 : decode prog_3_method_4_code 98 = .ok (.iadd, 1) := by decide +kernel
theorem D13_99 : decode prog_3_method_4_code 99 = .ok (.aload_n 1, 1) := by decide +kernel
theorem D13_100 : decode prog_3_method_4_code 100 = .ok (.getfield 33, 3) := by decide +kernel
theorem D13_103 : decode prog_3_method_4_code 103 = .ok (.iload_n 3, 1) := by decide +kernel
theorem D13_104 : decode prog_3_method_4_code 104 = .ok (.iconst 3, 1) := by decide +kernel
theorem D13_105 : decode prog_3_method_4_code 105 = .ok (.imul, 1) := by decide +kernel
theorem D13_106 : decode prog_3_method_4_code 106 = .ok (.iconst 3, 1) := by decide +kernel
theorem D13_107 : decode prog_3_method_4_code 107 = .ok (.invokestatic 36, 3) := by decide +kernel
theorem D13_110 : decode prog_3_method_4_code 110 = .ok (.aload_n 0, 1) := by decide +kernel
theorem D13_111 : decode prog_3_method_4_code 111 = .ok (.getfield 11, 3) := by decide +kernel
theorem D13_114 : decode prog_3_method_4_code 114 = .ok (.iload_n 2, 1) := by decide +kernel
theorem D13_115 : decode prog_3_method_4_code 115 = .ok (.bipush 7, 2) := by decide +kernel
theorem D13_117 : decode prog_3_method_4_code 117 = .ok (.iadd, 1) := by decide +kernel
theorem D13_118 : decode prog_3_method_4_code 118 = .ok (.aload_n 1, 1) := by decide +kernel
theorem D13_119 : decode prog_3_method_4_code 119 = .ok (.getfield 42, 3) := by decide +kernel
theorem D13_122 : decode prog_3_method_4_code 122 = .ok (.iconst 0, 1) := by decide +kernel
theorem D13_123 : decode prog_3_method_4_code 123 = .ok (.bipush 6, 2) := by decide +kernel
theorem D13_125 : decode prog_3_method_4_code 125 = .ok (.invokestatic 36, 3) := by decide +kernel
theorem D13_128 : decode prog_3_method_4_code 128 = .ok (.aload_n 0, 1) := by decide +kernel
theorem D13_129 : decode prog_3_method_4_code 129 = .ok (.getfield 15, 3) := by decide +kernel
theorem D13_132 : decode prog_3_method_4_code 132 = .ok (.ireturn, 1) := by decide +kernel

theorem b13_0 {d : Nat} {w1 : Nat} {ia : Nat → Nat → Int32} {la : Nat → Nat → Int64} {pl dr : Nat} {cp : Option Nat} {cw : Option Nat} {rp : Option Nat} {K : Option Value → zHP → Prop} (hw1 : zIsW w1) : zWP (d + 5) 13 0 [some (.ref 113), some (.ref w1), none, none] [] (ia, la, zRA pl dr cp cw rp) K = (if ¬ (ia 113 2) = 0 then (vp_in (((zu (zu ia 113 1 ((((ia 113 1) + (20 : Int32)) - (1 : Int32)) - (((ia 113 1) + (20 : Int32)) - (1 : Int32)) / (20 : Int32) * (20 : Int32))) 113 2 (((zu ia 113 1 ((((ia 113 1) + (20 : Int32)) - (1 : Int32)) - (((ia 113 1) + (20 : Int32)) - (1 : Int32)) / (20 : Int32) * (20 : Int32))) 113 2) - (1 : Int32))) 113 1) * (13 : Int32)) 260 ∧ (vp_in ((((zu (zu ia 113 1 ((((ia 113 1) + (20 : Int32)) - (1 : Int32)) - (((ia 113 1) + (20 : Int32)) - (1 : Int32)) / (20 : Int32) * (20 : Int32))) 113 2 (((zu ia 113 1 ((((ia 113 1) + (20 : Int32)) - (1 : Int32)) - (((ia 113 1) + (20 : Int32)) - (1 : Int32)) / (20 : Int32) * (20 : Int32))) 113 2) - (1 : Int32))) 113 1) * (13 : Int32)) + (1 : Int32)) 260 ∧ (vp_in ((zu (zu ia 113 1 ((((ia 113 1) + (20 : Int32)) - (1 : Int32)) - (((ia 113 1) + (20 : Int32)) - (1 : Int32)) / (20 : Int32) * (20 : Int32))) 113 2 (((zu ia 113 1 ((((ia 113 1) + (20 : Int32)) - (1 : Int32)) - (((ia 113 1) + (20 : Int32)) - (1 : Int32)) / (20 : Int32) * (20 : Int32))) 113 2) - (1 : Int32))) 114 ((((zu (zu ia 113 1 ((((ia 113 1) + (20 : Int32)) - (1 : Int32)) - (((ia 113 1) + (20 : Int32)) - (1 : Int32)) / (20 : Int32) * (20 : Int32))) 113 2 (((zu ia 113 1 ((((ia 113 1) + (20 : Int32)) - (1 : Int32)) - (((ia 113 1) + (20 : Int32)) - (1 : Int32)) / (20 : Int32) * (20 : Int32))) 113 2) - (1 : Int32))) 113 1) * (13 : Int32))).toNatClampNeg) 6 ∧ (vp_in ((((zu (zu ia 113 1 ((((ia 113 1) + (20 : Int32)) - (1 : Int32)) - (((ia 113 1) + (20 : Int32)) - (1 : Int32)) / (20 : Int32) * (20 : Int32))) 113 2 (((zu ia 113 1 ((((ia 113 1) + (20 : Int32)) - (1 : Int32)) - (((ia 113 1) + (20 : Int32)) - (1 : Int32)) / (20 : Int32) * (20 : Int32))) 113 2) - (1 : Int32))) 113 1) * (13 : Int32)) + (2 : Int32)) 260 ∧ (vp_in ((((zu (zu ia 113 1 ((((ia 113 1) + (20 : Int32)) - (1 : Int32)) - (((ia 113 1) + (20 : Int32)) - (1 : Int32)) / (20 : Int32) * (20 : Int32))) 113 2 (((zu ia 113 1 ((((ia 113 1) + (20 : Int32)) - (1 : Int32)) - (((ia 113 1) + (20 : Int32)) - (1 : Int32)) / (20 : Int32) * (20 : Int32))) 113 2) - (1 : Int32))) 113 1) * (13 : Int32)) + (3 : Int32)) 260 ∧ ((¬ ((((zu (zu ia 113 1 ((((ia 113 1) + (20 : Int32)) - (1 : Int32)) - (((ia 113 1) + (20 : Int32)) - (1 : Int32)) / (20 : Int32) * (20 : Int32))) 113 2 (((zu ia 113 1 ((((ia 113 1) + (20 : Int32)) - (1 : Int32)) - (((ia 113 1) + (20 : Int32)) - (1 : Int32)) / (20 : Int32) * (20 : Int32))) 113 2) - (1 : Int32))) 113 1) * (13 : Int32)) + (4 : Int32)) < 0 ∧ ¬ (((zu (zu ia 113 1 ((((ia 113 1) + (20 : Int32)) - (1 : Int32)) - (((ia 113 1) + (20 : Int32)) - (1 : Int32)) / (20 : Int32) * (20 : Int32))) 113 2 (((zu ia 113 1 ((((ia 113 1) + (20 : Int32)) - (1 : Int32)) - (((ia 113 1) + (20 : Int32)) - (1 : Int32)) / (20 : Int32) * (20 : Int32))) 113 2) - (1 : Int32))) 114 ((((zu (zu ia 113 1 ((((ia 113 1) + (20 : Int32)) - (1 : Int32)) - (((ia 113 1) + (20 : Int32)) - (1 : Int32)) / (20 : Int32) * (20 : Int32))) 113 2 (((zu ia 113 1 ((((ia 113 1) + (20 : Int32)) - (1 : Int32)) - (((ia 113 1) + (20 : Int32)) - (1 : Int32)) / (20 : Int32) * (20 : Int32))) 113 2) - (1 : Int32))) 113 1) * (13 : Int32))).toNatClampNeg) * (3 : Int32)) < 0 ∧ ¬ (3 : Int32) < 0 ∧ (((((zu (zu ia 113 1 ((((ia 113 1) + (20 : Int32)) - (1 : Int32)) - (((ia 113 1) + (20 : Int32)) - (1 : Int32)) / (20 : Int32) * (20 : Int32))) 113 2 (((zu ia 113 1 ((((ia 113 1) + (20 : Int32)) - (1 : Int32)) - (((ia 113 1) + (20 : Int32)) - (1 : Int32)) / (20 : Int32) * (20 : Int32))) 113 2) - (1 : Int32))) 113 1) * (13 : Int32)) + (4 : Int32))).toNatClampNeg + ((3 : Int32)).toNatClampNeg ≤ 260 ∧ ((((zu (zu ia 113 1 ((((ia 113 1) + (20 : Int32)) - (1 : Int32)) - (((ia 113 1) + (20 : Int32)) - (1 : Int32)) / (20 : Int32) * (20 : Int32))) 113 2 (((zu ia 113 1 ((((ia 113 1) + (20 : Int32)) - (1 : Int32)) - (((ia 113 1) + (20 : Int32)) - (1 : Int32)) / (20 : Int32) * (20 : Int32))) 113 2) - (1 : Int32))) 114 ((((zu (zu ia 113 1 ((((ia 113 1) + (20 : Int32)) - (1 : Int32)) - (((ia 113 1) + (20 : Int32)) - (1 : Int32)) / (20 : Int32) * (20 : Int32))) 113 2 (((zu ia 113 1 ((((ia 113 1) + (20 : Int32)) - (1 : Int32)) - (((ia 113 1) + (20 : Int32)) - (1 : Int32)) / (20 : Int32) * (20 : Int32))) 113 2) - (1 : Int32))) 113 1) * (13 : Int32))).toNatClampNeg) * (3 : Int32))).toNatClampNeg + ((3 : Int32)).toNatClampNeg ≤ 18) ∧ ((¬ ((((zu (zu ia 113 1 ((((ia 113 1) + (20 : Int32)) - (1 : Int32)) - (((ia 113 1) + (20 : Int32)) - (1 : Int32)) / (20 : Int32) * (20 : Int32))) 113 2 (((zu ia 113 1 ((((ia 113 1) + (20 : Int32)) - (1 : Int32)) - (((ia 113 1) + (20 : Int32)) - (1 : Int32)) / (20 : Int32) * (20 : Int32))) 113 2) - (1 : Int32))) 113 1) * (13 : Int32)) + (7 : Int32)) < 0 ∧ ¬ (0 : Int32) < 0 ∧ ¬ (6 : Int32) < 0 ∧ (((((zu (zu ia 113 1 ((((ia 113 1) + (20 : Int32)) - (1 : Int32)) - (((ia 113 1) + (20 : Int32)) - (1 : Int32)) / (20 : Int32) * (20 : Int32))) 113 2 (((zu ia 113 1 ((((ia 113 1) + (20 : Int32)) - (1 : Int32)) - (((ia 113 1) + (20 : Int32)) - (1 : Int32)) / (20 : Int32) * (20 : Int32))) 113 2) - (1 : Int32))) 113 1) * (13 : Int32)) + (7 : Int32))).toNatClampNeg + ((6 : Int32)).toNatClampNeg ≤ 260 ∧ ((0 : Int32)).toNatClampNeg + ((6 : Int32)).toNatClampNeg ≤ 6) ∧ K (some (.int ((zcp (zcp (zu (zu (zu (zu (zu ia 113 1 ((((ia 113 1) + (20 : Int32)) - (1 : Int32)) - (((ia 113 1) + (20 : Int32)) - (1 : Int32)) / (20 : Int32) * (20 : Int32))) 113 2 (((zu ia 113 1 ((((ia 113 1) + (20 : Int32)) - (1 : Int32)) - (((ia 113 1) + (20 : Int32)) - (1 : Int32)) / (20 : Int32) * (20 : Int32))) 113 2) - (1 : Int32))) (w1 + 3) (((zu (zu ia 113 1 ((((ia 113 1) + (20 : Int32)) - (1 : Int32)) - (((ia 113 1) + (20 : Int32)) - (1 : Int32)) / (20 : Int32) * (20 : Int32))) 113 2 (((zu ia 113 1 ((((ia 113 1) + (20 : Int32)) - (1 : Int32)) - (((ia 113 1) + (20 : Int32)) - (1 : Int32)) / (20 : Int32) * (20 : Int32))) 113 2) - (1 : Int32))) 114 ((((zu (zu ia 113 1 ((((ia 113 1) + (20 : Int32)) - (1 : Int32)) - (((ia 113 1) + (20 : Int32)) - (1 : Int32)) / (20 : Int32) * (20 : Int32))) 113 2 (((zu ia 113 1 ((((ia 113 1) + (20 : Int32)) - (1 : Int32)) - (((ia 113 1) + (20 : Int32)) - (1 : Int32)) / (20 : Int32) * (20 : Int32))) 113 2) - (1 : Int32))) 113 1) * (13 : Int32))).toNatClampNeg)).toNatClampNeg ((zu (zu ia 113 1 ((((ia 113 1) + (20 : Int32)) - (1 : Int32)) - (((ia 113 1) + (20 : Int32)) - (1 : Int32)) / (20 : Int32) * (20 : Int32))) 113 2 (((zu ia 113 1 ((((ia 113 1) + (20 : Int32)) - (1 : Int32)) - (((ia 113 1) + (20 : Int32)) - (1 : Int32)) / (20 : Int32) * (20 : Int32))) 113 2) - (1 : Int32))) 114 (((((zu (zu ia 113 1 ((((ia 113 1) + (20 : Int32)) - (1 : Int32)) - (((ia 113 1) + (20 : Int32)) - (1 : Int32)) / (20 : Int32) * (20 : Int32))) 113 2 (((zu ia 113 1 ((((ia 113 1) + (20 : Int32)) - (1 : Int32)) - (((ia 113 1) + (20 : Int32)) - (1 : Int32)) / (20 : Int32) * (20 : Int32))) 113 2) - (1 : Int32))) 113 1) * (13 : Int32)) + (1 : Int32))).toNatClampNeg)) (w1 + 4) (((zu (zu ia 113 1 ((((ia 113 1) + (20 : Int32)) - (1 : Int32)) - (((ia 113 1) + (20 : Int32)) - (1 : Int32)) / (20 : Int32) * (20 : Int32))) 113 2 (((zu ia 113 1 ((((ia 113 1) + (20 : Int32)) - (1 : Int32)) - (((ia 113 1) + (20 : Int32)) - (1 : Int32)) / (20 : Int32) * (20 : Int32))) 113 2) - (1 : Int32))) 114 ((((zu (zu ia 113 1 ((((ia 113 1) + (20 : Int32)) - (1 : Int32)) - (((ia 113 1) + (20 : Int32)) - (1 : Int32)) / (20 : Int32) * (20 : Int32))) 113 2 (((zu ia 113 1 ((((ia 113 1) + (20 : Int32)) - (1 : Int32)) - (((ia 113 1) + (20 : Int32)) - (1 : Int32)) / (20 : Int32) * (20 : Int32))) 113 2) - (1 : Int32))) 113 1) * (13 : Int32))).toNatClampNeg)).toNatClampNeg ((zu (zu (zu ia 113 1 ((((ia 113 1) + (20 : Int32)) - (1 : Int32)) - (((ia 113 1) + (20 : Int32)) - (1 : Int32)) / (20 : Int32) * (20 : Int32))) 113 2 (((zu ia 113 1 ((((ia 113 1) + (20 : Int32)) - (1 : Int32)) - (((ia 113 1) + (20 : Int32)) - (1 : Int32)) / (20 : Int32) * (20 : Int32))) 113 2) - (1 : Int32))) (w1 + 3) (((zu (zu ia 113 1 ((((ia 113 1) + (20 : Int32)) - (1 : Int32)) - (((ia 113 1) + (20 : Int32)) - (1 : Int32)) / (20 : Int32) * (20 : Int32))) 113 2 (((zu ia 113 1 ((((ia 113 1) + (20 : Int32)) - (1 : Int32)) - (((ia 113 1) + (20 : Int32)) - (1 : Int32)) / (20 : Int32) * (20 : Int32))) 113 2) - (1 : Int32))) 114 ((((zu (zu ia 113 1 ((((ia 113 1) + (20 : Int32)) - (1 : Int32)) - (((ia 113 1) + (20 : Int32)) - (1 : Int32)) / (20 : Int32) * (20 : Int32))) 113 2 (((zu ia 113 1 ((((ia 113 1) + (20 : Int32)) - (1 : Int32)) - (((ia 113 1) + (20 : Int32)) - (1 : Int32)) / (20 : Int32) * (20 : Int32))) 113 2) - (1 : Int32))) 113 1) * (13 : Int32))).toNatClampNeg)).toNatClampNeg ((zu (zu ia 113 1 ((((ia 113 1) + (20 : Int32)) - (1 : Int32)) - (((ia 113 1) + (20 : Int32)) - (1 : Int32)) / (20 : Int32) * (20 : Int32))) 113 2 (((zu ia 113 1 ((((ia 113 1) + (20 : Int32)) - (1 : Int32)) - (((ia 113 1) + (20 : Int32)) - (1 : Int32)) / (20 : Int32) * (20 : Int32))) 113 2) - (1 : Int32))) 114 (((((zu (zu ia 113 1 ((((ia 113 1) + (20 : Int32)) - (1 : Int32)) - (((ia 113 1) + (20 : Int32)) - (1 : Int32)) / (20 : Int32) * (20 : Int32))) 113 2 (((zu ia 113 1 ((((ia 113 1) + (20 : Int32)) - (1 : Int32)) - (((ia 113 1) + (20 : Int32)) - (1 : Int32)) / (20 : Int32) * (20 : Int32))) 113 2) - (1 : Int32))) 113 1) * (13 : Int32)) + (1 : Int32))).toNatClampNeg)) 114 (((((zu (zu ia 113 1 ((((ia 113 1) + (20 : Int32)) - (1 : Int32)) - (((ia 113 1) + (20 : Int32)) - (1 : Int32)) / (20 : Int32) * (20 : Int32))) 113 2 (((zu ia 113 1 ((((ia 113 1) + (20 : Int32)) - (1 : Int32)) - (((ia 113 1) + (20 : Int32)) - (1 : Int32)) / (20 : Int32) * (20 : Int32))) 113 2) - (1 : Int32))) 113 1) * (13 : Int32)) + (2 : Int32))).toNatClampNeg)) (w1 + 5) (((zu (zu ia 113 1 ((((ia 113 1) + (20 : Int32)) - (1 : Int32)) - (((ia 113 1) + (20 : Int32)) - (1 : Int32)) / (20 : Int32) * (20 : Int32))) 113 2 (((zu ia 113 1 ((((ia 113 1) + (20 : Int32)) - (1 : Int32)) - (((ia 113 1) + (20 : Int32)) - (1 : Int32)) / (20 : Int32) * (20 : Int32))) 113 2) - (1 : Int32))) 114 ((((zu (zu ia 113 1 ((((ia 113 1) + (20 : Int32)) - (1 : Int32)) - (((ia 113 1) + (20 : Int32)) - (1 : Int32)) / (20 : Int32) * (20 : Int32))) 113 2 (((zu ia 113 1 ((((ia 113 1) + (20 : Int32)) - (1 : Int32)) - (((ia 113 1) + (20 : Int32)) - (1 : Int32)) / (20 : Int32) * (20 : Int32))) 113 2) - (1 : Int32))) 113 1) * (13 : Int32))).toNatClampNeg)).toNatClampNeg ((zu (zu (zu (zu ia 113 1 ((((ia 113 1) + (20 : Int32)) - (1 : Int32)) - (((ia 113 1) + (20 : Int32)) - (1 : Int32)) / (20 : Int32) * (20 : Int32))) 113 2 (((zu ia 113 1 ((((ia 113 1) + (20 : Int32)) - (1 : Int32)) - (((ia 113 1) + (20 : Int32)) - (1 : Int32)) / (20 : Int32) * (20 : Int32))) 113 2) - (1 : Int32))) (w1 + 3) (((zu (zu ia 113 1 ((((ia 113 1) + (20 : Int32)) - (1 : Int32)) - (((ia 113 1) + (20 : Int32)) - (1 : Int32)) / (20 : Int32) * (20 : Int32))) 113 2 (((zu ia 113 1 ((((ia 113 1) + (20 : Int32)) - (1 : Int32)) - (((ia 113 1) + (20 : Int32)) - (1 : Int32)) / (20 : Int32) * (20 : Int32))) 113 2) - (1 : Int32))) 114 ((((zu (zu ia 113 1 ((((ia 113 1) + (20 : Int32)) - (1 : Int32)) - (((ia 113 1) + (20 : Int32)) - (1 : Int32)) / (20 : Int32) * (20 : Int32))) 113 2 (((zu ia 113 1 ((((ia 113 1) + (20 : Int32)) - (1 : Int32)) - (((ia 113 1) + (20 : Int32)) - (1 : Int32)) / (20 : Int32) * (20 : Int32))) 113 2) - (1 : Int32))) 113 1) * (13 : Int32))).toNatClampNeg)).toNatClampNeg ((zu (zu ia 113 1 ((((ia 113 1) + (20 : Int32)) - (1 : Int32)) - (((ia 113 1) + (20 : Int32)) - (1 : Int32)) / (20 : Int32) * (20 : Int32))) 113 2 (((zu ia 113 1 ((((ia 113 1) + (20 : Int32)) - (1 : Int32)) - (((ia 113 1) + (20 : Int32)) - (1 : Int32)) / (20 : Int32) * (20 : Int32))) 113 2) - (1 : Int32))) 114 (((((zu (zu ia 113 1 ((((ia 113 1) + (20 : Int32)) - (1 : Int32)) - (((ia 113 1) + (20 : Int32)) - (1 : Int32)) / (20 : Int32) * (20 : Int32))) 113 2 (((zu ia 113 1 ((((ia 113 1) + (20 : Int32)) - (1 : Int32)) - (((ia 113 1) + (20 : Int32)) - (1 : Int32)) / (20 : Int32) * (20 : Int32))) 113 2) - (1 : Int32))) 113 1) * (13 : Int32)) + (1 : Int32))).toNatClampNeg)) (w1 + 4) (((zu (zu ia 113 1 ((((ia 113 1) + (20 : Int32)) - (1 : Int32)) - (((ia 113 1) + (20 : Int32)) - (1 : Int32)) / (20 : Int32) * (20 : Int32))) 113 2 (((zu ia 113 1 ((((ia 113 1) + (20 : Int32)) - (1 : Int32)) - (((ia 113 1) + (20 : Int32)) - (1 : Int32)) / (20 : Int32) * (20 : Int32))) 113 2) - (1 : Int32))) 114 ((((zu (zu ia 113 1 ((((ia 113 1) + (20 : Int32)) - (1 : Int32)) - (((ia 113 1) + (20 : Int32)) - (1 : Int32)) / (20 : Int32) * (20 : Int32))) 113 2 (((zu ia 113 1 ((((ia 113 1) + (20 : Int32)) - (1 : Int32)) - (((ia 113 1) + (20 : Int32)) - (1 : Int32)) / (20 : Int32) * (20 : Int32))) 113 2) - (1 : Int32))) 113 1) * (13 : Int32))).toNatClampNeg)).toNatClampNeg ((zu (zu (zu ia 113 1 ((((ia 113 1) + (20 : Int32)) - (1 : Int32)) - (((ia 113 1) + (20 : Int32)) - (1 : Int32)) / (20 : Int32) * (20 : Int32))) 113 2 (((zu ia 113 1 ((((ia 113 1) + (20 : Int32)) - (1 : Int32)) - (((ia 113 1) + (20 : Int32)) - (1 : Int32)) / (20 : Int32) * (20 : Int32))) 113 2) - (1 : Int32))) (w1 + 3) (((zu (zu ia 113 1 ((((ia 113 1) + (20 : Int32)) - (1 : Int32)) - (((ia 113 1) + (20 : Int32)) - (1 : Int32)) / (20 : Int32) * (20 : Int32))) 113 2 (((zu ia 113 1 ((((ia 113 1) + (20 : Int32)) - (1 : Int32)) - (((ia 113 1) + (20 : Int32)) - (1 : Int32)) / (20 : Int32) * (20 : Int32))) 113 2) - (1 : Int32))) 114 ((((zu (zu ia 113 1 ((((ia 113 1) + (20 : Int32)) - (1 : Int32)) - (((ia 113 1) + (20 : Int32)) - (1 : Int32)) / (20 : Int32) * (20 : Int32))) 113 2 (((zu ia 113 1 ((((ia 113 1) + (20 : Int32)) - (1 : Int32)) - (((ia 113 1) + (20 : Int32)) - (1 : Int32)) / (20 : Int32) * (20 : Int32))) 113 2) - (1 : Int32))) 113 1) * (13 : Int32))).toNatClampNeg)).toNatClampNeg ((zu (zu ia 113 1 ((((ia 113 1) + (20 : Int32)) - (1 : Int32)) - (((ia 113 1) + (20 : Int32)) - (1 : Int32)) / (20 : Int32) * (20 : Int32))) 113 2 (((zu ia 113 1 ((((ia 113 1) + (20 : Int32)) - (1 : Int32)) - (((ia 113 1) + (20 : Int32)) - (1 : Int32)) / (20 : Int32) * (20 : Int32))) 113 2) - (1 : Int32))) 114 (((((zu (zu ia 113 1 ((((ia 113 1) + (20 : Int32)) - (1 : Int32)) - (((ia 113 1) + (20 : Int32)) - (1 : Int32)) / (20 : Int32) * (20 : Int32))) 113 2 (((zu ia 113 1 ((((ia 113 1) + (20 : Int32)) - (1 : Int32)) - (((ia 113 1) + (20 : Int32)) - (1 : Int32)) / (20 : Int32) * (20 : Int32))) 113 2) - (1 : Int32))) 113 1) * (13 : Int32)) + (1 : Int32))).toNatClampNeg)) 114 (((((zu (zu ia 113 1 ((((ia 113 1) + (20 : Int32)) - (1 : Int32)) - (((ia 113 1) + (20 : Int32)) - (1 : Int32)) / (20 : Int32) * (20 : Int32))) 113 2 (((zu ia 113 1 ((((ia 113 1) + (20 : Int32)) - (1 : Int32)) - (((ia 113 1) + (20 : Int32)) - (1 : Int32)) / (20 : Int32) * (20 : Int32))) 113 2) - (1 : Int32))) 113 1) * (13 : Int32)) + (2 : Int32))).toNatClampNeg)) 114 (((((zu (zu ia 113 1 ((((ia 113 1) + (20 : Int32)) - (1 : Int32)) - (((ia 113 1) + (20 : Int32)) - (1 : Int32)) / (20 : Int32) * (20 : Int32))) 113 2 (((zu ia 113 1 ((((ia 113 1) + (20 : Int32)) - (1 : Int32)) - (((ia 113 1) + (20 : Int32)) - (1 : Int32)) / (20 : Int32) * (20 : Int32))) 113 2) - (1 : Int32))) 113 1) * (13 : Int32)) + (3 : Int32))).toNatClampNeg)) 114 (w1 + 2) ((((zu (zu ia 113 1 ((((ia 113 1) + (20 : Int32)) - (1 : Int32)) - (((ia 113 1) + (20 : Int32)) - (1 : Int32)) / (20 : Int32) * (20 : Int32))) 113 2 (((zu ia 113 1 ((((ia 113 1) + (20 : Int32)) - (1 : Int32)) - (((ia 113 1) + (20 : Int32)) - (1 : Int32)) / (20 : Int32) * (20 : Int32))) 113 2) - (1 : Int32))) 113 1) * (13 : Int32)) + (4 : Int32)) (((zu (zu ia 113 1 ((((ia 113 1) + (20 : Int32)) - (1 : Int32)) - (((ia 113 1) + (20 : Int32)) - (1 : Int32)) / (20 : Int32) * (20 : Int32))) 113 2 (((zu ia 113 1 ((((ia 113 1) + (20 : Int32)) - (1 : Int32)) - (((ia 113 1) + (20 : Int32)) - (1 : Int32)) / (20 : Int32) * (20 : Int32))) 113 2) - (1 : Int32))) 114 ((((zu (zu ia 113 1 ((((ia 113 1) + (20 : Int32)) - (1 : Int32)) - (((ia 113 1) + (20 : Int32)) - (1 : Int32)) / (20 : Int32) * (20 : Int32))) 113 2 (((zu ia 113 1 ((((ia 113 1) + (20 : Int32)) - (1 : Int32)) - (((ia 113 1) + (20 : Int32)) - (1 : Int32)) / (20 : Int32) * (20 : Int32))) 113 2) - (1 : Int32))) 113 1) * (13 : Int32))).toNatClampNeg) * (3 : Int32)) (3 : Int32)) 114 (w1 + 1) ((((zu (zu ia 113 1 ((((ia 113 1) + (20 : Int32)) - (1 : Int32)) - (((ia 113 1) + (20 : Int32)) - (1 : Int32)) / (20 : Int32) * (20 : Int32))) 113 2 (((zu ia 113 1 ((((ia 113 1) + (20 : Int32)) - (1 : Int32)) - (((ia 113 1) + (20 : Int32)) - (1 : Int32)) / (20 : Int32) * (20 : Int32))) 113 2) - (1 : Int32))) 113 1) * (13 : Int32)) + (7 : Int32)) (0 : Int32) (6 : Int32)) 113 2))) ((zcp (zcp (zu (zu (zu (zu (zu ia 113 1 ((((ia 113 1) + (20 : Int32)) - (1 : Int32)) - (((ia 113 1) + (20 : Int32)) - (1 : Int32)) / (20 : Int32) * (20 : Int32))) 113 2 (((zu ia 113 1 ((((ia 113 1) + (20 : Int32)) - (1 : Int32)) - (((ia 113 1) + (20 : Int32)) - (1 : Int32)) / (20 : Int32) * (20 : Int32))) 113 2) - (1 : Int32))) (w1 + 3) (((zu (zu ia 113 1 ((((ia 113 1) + (20 : Int32)) - (1 : Int32)) - (((ia 113 1) + (20 : Int32)) - (1 : Int32)) / (20 : Int32) * (20 : Int32))) 113 2 (((zu ia 113 1 ((((ia 113 1) + (20 : Int32)) - (1 : Int32)) - (((ia 113 1) + (20 : Int32)) - (1 : Int32)) / (20 : Int32) * (20 : Int32))) 113 2) - (1 : Int32))) 114 ((((zu (zu ia 113 1 ((((ia 113 1) + (20 : Int32)) - (1 : Int32)) - (((ia 113 1) + (20 : Int32)) - (1 : Int32)) / (20 : Int32) * (20 : Int32))) 113 2 (((zu ia 113 1 ((((ia 113 1) + (20 : Int32)) - (1 : Int32)) - (((ia 113 1) + (20 : Int32)) - (1 : Int32)) / (20 : Int32) * (20 : Int32))) 113 2) - (1 : Int32))) 113 1) * (13 : Int32))).toNatClampNeg)).toNatClampNeg ((zu (zu ia 113 1 ((((ia 113 1) + (20 : Int32)) - (1 : Int32)) - (((ia 113 1) + (20 : Int32)) - (1 : Int32)) / (20 : Int32) * (20 : Int32))) 113 2 (((zu ia 113 1 ((((ia 113 1) + (20 : Int32)) - (1 : Int32)) - (((ia 113 1) + (20 : Int32)) - (1 : Int32)) / (20 : Int32) * (20 : Int32))) 113 2) - (1 : Int32))) 114 (((((zu (zu ia 113 1 ((((ia 113 1) + (20 : Int32)) - (1 : Int32)) - (((ia 113 1) + (20 : Int32)) - (1 : Int32)) / (20 : Int32) * (20 : Int32))) 113 2 (((zu ia 113 1 ((((ia 113 1) + (20 : Int32)) - (1 : Int32)) - (((ia 113 1) + (20 : Int32)) - (1 : Int32)) / (20 : Int32) * (20 : Int32))) 113 2) - (1 : Int32))) 113 1) * (13 : Int32)) + (1 : Int32))).toNatClampNeg)) (w1 + 4) (((zu (zu ia 113 1 ((((ia 113 1) + (20 : Int32)) - (1 : Int32)) - (((ia 113 1) + (20 : Int32)) - (1 : Int32)) / (20 : Int32) * (20 : Int32))) 113 2 (((zu ia 113 1 ((((ia 113 1) + (20 : Int32)) - (1 : Int32)) - (((ia 113 1) + (20 : Int32)) - (1 : Int32)) / (20 : Int32) * (20 : Int32))) 113 2) - (1 : Int32))) 114 ((((zu (zu ia 113 1 ((((ia 113 1) + (20 : Int32)) - (1 : Int32)) - (((ia 113 1) + (20 : Int32)) - (1 : Int32)) / (20 : Int32) * (20 : Int32))) 113 2 (((zu ia 113 1 ((((ia 113 1) + (20 : Int32)) - (1 : Int32)) - (((ia 113 1) + (20 : Int32)) - (1 : Int32)) / (20 : Int32) * (20 : Int32))) 113 2) - (1 : Int32))) 113 1) * (13 : Int32))).toNatClampNeg)).toNatClampNeg ((zu (zu (zu ia 113 1 ((((ia 113 1) + (20 : Int32)) - (1 : Int32)) - (((ia 113 1) + (20 : Int32)) - (1 : Int32)) / (20 : Int32) * (20 : Int32))) 113 2 (((zu ia 113 1 ((((ia 113 1) + (20 : Int32)) - (1 : Int32)) - (((ia 113 1) + (20 : Int32)) - (1 : Int32)) / (20 : Int32) * (20 : Int32))) 113 2) - (1 : Int32))) (w1 + 3) (((zu (zu ia 113 1 ((((ia 113 1) + (20 : Int32)) - (1 : Int32)) - (((ia 113 1) + (20 : Int32)) - (1 : Int32)) / (20 : Int32) * (20 : Int32))) 113 2 (((zu ia 113 1 ((((ia 113 1) + (20 : Int32)) - (1 : Int32)) - (((ia 113 1) + (20 : Int32)) - (1 : Int32)) / (20 : Int32) * (20 : Int32))) 113 2) - (1 : Int32))) 114 ((((zu (zu ia 113 1 ((((ia 113 1) + (20 : Int32)) - (1 : Int32)) - (((ia 113 1) + (20 : Int32)) - (1 : Int32)) / (20 : Int32) * (20 : Int32))) 113 2 (((zu ia 113 1 ((((ia 113 1) + (20 : Int32)) - (1 : Int32)) - (((ia 113 1) + (20 : Int32)) - (1 : Int32)) / (20 : Int32) * (20 : Int32))) 113 2) - (1 : Int32))) 113 1) * (13 : Int32))).toNatClampNeg)).toNatClampNeg ((zu (zu ia 113 1 ((((ia 113 1) + (20 : Int32)) - (1 : Int32)) - (((ia 113 1) + (20 : Int32)) - (1 : Int32)) / (20 : Int32) * (20 : Int32))) 113 2 (((zu ia 113 1 ((((ia 113 1) + (20 : Int32)) - (1 : Int32)) - (((ia 113 1) + (20 : Int32)) - (1 : Int32)) / (20 : Int32) * (20 : Int32))) 113 2) - (1 : Int32))) 114 (((((zu (zu ia 113 1 ((((ia 113 1) + (20 : Int32)) - (1 : Int32)) - (((ia 113 1) + (20 : Int32)) - (1 : Int32)) / (20 : Int32) * (20 : Int32))) 113 2 (((zu ia 113 1 ((((ia 113 1) + (20 : Int32)) - (1 : Int32)) - (((ia 113 1) + (20 : Int32)) - (1 : Int32)) / (20 : Int32) * (20 : Int32))) 113 2) - (1 : Int32))) 113 1) * (13 : Int32)) + (1 : Int32))).toNatClampNeg)) 114 (((((zu (zu ia 113 1 ((((ia 113 1) + (20 : Int32)) - (1 : Int32)) - (((ia 113 1) + (20 : Int32)) - (1 : Int32)) / (20 : Int32) * (20 : Int32))) 113 2 (((zu ia 113 1 ((((ia 113 1) + (20 : Int32)) - (1 : Int32)) - (((ia 113 1) + (20 : Int32)) - (1 : Int32)) / (20 : Int32) * (20 : Int32))) 113 2) - (1 : Int32))) 113 1) * (13 : Int32)) + (2 : Int32))).toNatClampNeg)) (w1 + 5) (((zu (zu ia 113 1 ((((ia 113 1) + (20 : Int32)) - (1 : Int32)) - (((ia 113 1) + (20 : Int32)) - (1 : Int32)) / (20 : Int32) * (20 : Int32))) 113 2 (((zu ia 113 1 ((((ia 113 1) + (20 : Int32)) - (1 : Int32)) - (((ia 113 1) + (20 : Int32)) - (1 : Int32)) / (20 : Int32) * (20 : Int32))) 113 2) - (1 : Int32))) 114 ((((zu (zu ia 113 1 ((((ia 113 1) + (20 : Int32)) - (1 : Int32)) - (((ia 113 1) + (20 : Int32)) - (1 : Int32)) / (20 : Int32) * (20 : Int32))) 113 2 (((zu ia 113 1 ((((ia 113 1) + (20 : Int32)) - (1 : Int32)) - (((ia 113 1) + (20 : Int32)) - (1 : Int32)) / (20 : Int32) * (20 : Int32))) 113 2) - (1 : Int32))) 113 1) * (13 : Int32))).toNatClampNeg)).toNatClampNeg ((zu (zu (zu (zu ia 113 1 ((((ia 113 1) + (20 : Int32)) - (1 : Int32)) - (((ia 113 1) + (20 : Int32)) - (1 : Int32)) / (20 : Int32) * (20 : Int32))) 113 2 (((zu ia 113 1 ((((ia 113 1) + (20 : Int32)) - (1 : Int32)) - (((ia 113 1) + (20 : Int32)) - (1 : Int32)) / (20 : Int32) * (20 : Int32))) 113 2) - (1 : Int32))) (w1 + 3) (((zu (zu ia 113 1 ((((ia 113 1) + (20 : Int32)) - (1 : Int32)) - (((ia 113 1) + (20 : Int32)) - (1 : Int32)) / (20 : Int32) * (20 : Int32))) 113 2 (((zu ia 113 1 ((((ia 113 1) + (20 : Int32)) - (1 : Int32)) - (((ia 113 1) + (20 : Int32)) - (1 : Int32)) / (20 : Int32) * (20 : Int32))) 113 2) - (1 : Int32))) 114 ((((zu (zu ia 113 1 ((((ia 113 1) + (20 : Int32)) - (1 : Int32)) - (((ia 113 1) + (20 : Int32)) - (1 : Int32)) / (20 : Int32) * (20 : Int32))) 113 2 (((zu ia 113 1 ((((ia 113 1) + (20 : Int32)) - (1 : Int32)) - (((ia 113 1) + (20 : Int32)) - (1 : Int32)) / (20 : Int32) * (20 : Int32))) 113 2) - (1 : Int32))) 113 1) * (13 : Int32))).toNatClampNeg)).toNatClampNeg ((zu (zu ia 113 1 ((((ia 113 1) + (20 : Int32)) - (1 : Int32)) - (((ia 113 1) + (20 : Int32)) - (1 : Int32)) / (20 : Int32) * (20 : Int32))) 113 2 (((zu ia 113 1 ((((ia 113 1) + (20 : Int32)) - (1 : Int32)) - (((ia 113 1) + (20 : Int32)) - (1 : Int32)) / (20 : Int32) * (20 : Int32))) 113 2) - (1 : Int32))) 114 (((((zu (zu ia 113 1 ((((ia 113 1) + (20 : Int32)) - (1 : Int32)) - (((ia 113 1) + (20 : Int32)) - (1 : Int32)) / (20 : Int32) * (20 : Int32))) 113 2 (((zu ia 113 1 ((((ia 113 1) + (20 : Int32)) - (1 : Int32)) - (((ia 113 1) + (20 : Int32)) - (1 : Int32)) / (20 : Int32) * (20 : Int32))) 113 2) - (1 : Int32))) 113 1) * (13 : Int32)) + (1 : Int32))).toNatClampNeg)) (w1 + 4) (((zu (zu ia 113 1 ((((ia 113 1) + (20 : Int32)) - (1 : Int32)) - (((ia 113 1) + (20 : Int32)) - (1 : Int32)) / (20 : Int32) * (20 : Int32))) 113 2 (((zu ia 113 1 ((((ia 113 1) + (20 : Int32)) - (1 : Int32)) - (((ia 113 1) + (20 : Int32)) - (1 : Int32)) / (20 : Int32) * (20 : Int32))) 113 2) - (1 : Int32))) 114 ((((zu (zu ia 113 1 ((((ia 113 1) + (20 : Int32)) - (1 : Int32)) - (((ia 113 1) + (20 : Int32)) - (1 : Int32)) / (20 : Int32) * (20 : Int32))) 113 2 (((zu ia 113 1 ((((ia 113 1) + (20 : Int32)) - (1 : Int32)) - (((ia 113 1) + (20 : Int32)) - (1 : Int32)) / (20 : Int32) * (20 : Int32))) 113 2) - (1 : Int32))) 113 1) * (13 : Int32))).toNatClampNeg)).toNatClampNeg ((zu (zu (zu ia 113 1 ((((ia 113 1) + (20 : Int32)) - (1 : Int32)) - (((ia 113 1) + (20 : Int32)) - (1 : Int32)) / (20 : Int32) * (20 : Int32))) 113 2 (((zu ia 113 1 ((((ia 113 1) + (20 : Int32)) - (1 : Int32)) - (((ia 113 1) + (20 : Int32)) - (1 : Int32)) / (20 : Int32) * (20 : Int32))) 113 2) - (1 : Int32))) (w1 + 3) (((zu (zu ia 113 1 ((((ia 113 1) + (20 : Int32)) - (1 : Int32)) - (((ia 113 1) + (20 : Int32)) - (1 : Int32)) / (20 : Int32) * (20 : Int32))) 113 2 (((zu ia 113 1 ((((ia 113 1) + (20 : Int32)) - (1 : Int32)) - (((ia 113 1) + (20 : Int32)) - (1 : Int32)) / (20 : Int32) * (20 : Int32))) 113 2) - (1 : Int32))) 114 ((((zu (zu ia 113 1 ((((ia 113 1) + (20 : Int32)) - (1 : Int32)) - (((ia 113 1) + (20 : Int32)) - (1 : Int32)) / (20 : Int32) * (20 : Int32))) 113 2 (((zu ia 113 1 ((((ia 113 1) + (20 : Int32)) - (1 : Int32)) - (((ia 113 1) + (20 : Int32)) - (1 : Int32)) / (20 : Int32) * (20 : Int32))) 113 2) - (1 : Int32))) 113 1) * (13 : Int32))).toNatClampNeg)).toNatClampNeg ((zu (zu ia 113 1 ((((ia 113 1) + (20 : Int32)) - (1 : Int32)) - (((ia 113 1) + (20 : Int32)) - (1 : Int32)) / (20 : Int32) * (20 : Int32))) 113 2 (((zu ia 113 1 ((((ia 113 1) + (20 : Int32)) - (1 : Int32)) - (((ia 113 1) + (20 : Int32)) - (1 : Int32)) / (20 : Int32) * (20 : Int32))) 113 2) - (1 : Int32))) 114 (((((zu (zu ia 113 1 ((((ia 113 1) + (20 : Int32)) - (1 : Int32)) - (((ia 113 1) + (20 : Int32)) - (1 : Int32)) / (20 : Int32) * (20 : Int32))) 113 2 (((zu ia 113 1 ((((ia 113 1) + (20 : Int32)) - (1 : Int32)) - (((ia 113 1) + (20 : Int32)) - (1 : Int32)) / (20 : Int32) * (20 : Int32))) 113 2) - (1 : Int32))) 113 1) * (13 : Int32)) + (1 : Int32))).toNatClampNeg)) 114 (((((zu (zu ia 113 1 ((((ia 113 1) + (20 : Int32)) - (1 : Int32)) - (((ia 113 1) + (20 : Int32)) - (1 : Int32)) / (20 : Int32) * (20 : Int32))) 113 2 (((zu ia 113 1 ((((ia 113 1) + (20 : Int32)) - (1 : Int32)) - (((ia 113 1) + (20 : Int32)) - (1 : Int32)) / (20 : Int32) * (20 : Int32))) 113 2) - (1 : Int32))) 113 1) * (13 : Int32)) + (2 : Int32))).toNatClampNeg)) 114 (((((zu (zu ia 113 1 ((((ia 113 1) + (20 : Int32)) - (1 : Int32)) - (((ia 113 1) + (20 : Int32)) - (1 : Int32)) / (20 : Int32) * (20 : Int32))) 113 2 (((zu ia 113 1 ((((ia 113 1) + (20 : Int32)) - (1 : Int32)) - (((ia 113 1) + (20 : Int32)) - (1 : Int32)) / (20 : Int32) * (20 : Int32))) 113 2) - (1 : Int32))) 113 1) * (13 : Int32)) + (3 : Int32))).toNatClampNeg)) 114 (w1 + 2) ((((zu (zu ia 113 1 ((((ia 113 1) + (20 : Int32)) - (1 : Int32)) - (((ia 113 1) + (20 : Int32)) - (1 : Int32)) / (20 : Int32) * (20 : Int32))) 113 2 (((zu ia 113 1 ((((ia 113 1) + (20 : Int32)) - (1 : Int32)) - (((ia 113 1) + (20 : Int32)) - (1 : Int32)) / (20 : Int32) * (20 : Int32))) 113 2) - (1 : Int32))) 113 1) * (13 : Int32)) + (4 : Int32)) (((zu (zu ia 113 1 ((((ia 113 1) + (20 : Int32)) - (1 : Int32)) - (((ia 113 1) + (20 : Int32)) - (1 : Int32)) / (20 : Int32) * (20 : Int32))) 113 2 (((zu ia 113 1 ((((ia 113 1) + (20 : Int32)) - (1 : Int32)) - (((ia 113 1) + (20 : Int32)) - (1 : Int32)) / (20 : Int32) * (20 : Int32))) 113 2) - (1 : Int32))) 114 ((((zu (zu ia 113 1 ((((ia 113 1) + (20 : Int32)) - (1 : Int32)) - (((ia 113 1) + (20 : Int32)) - (1 : Int32)) / (20 : Int32) * (20 : Int32))) 113 2 (((zu ia 113 1 ((((ia 113 1) + (20 : Int32)) - (1 : Int32)) - (((ia 113 1) + (20 : Int32)) - (1 : Int32)) / (20 : Int32) * (20 : Int32))) 113 2) - (1 : Int32))) 113 1) * (13 : Int32))).toNatClampNeg) * (3 : Int32)) (3 : Int32)) 114 (w1 + 1) ((((zu (zu ia 113 1 ((((ia 113 1) + (20 : Int32)) - (1 : Int32)) - (((ia 113 1) + (20 : Int32)) - (1 : Int32)) / (20 : Int32) * (20 : Int32))) 113 2 (((zu ia 113 1 ((((ia 113 1) + (20 : Int32)) - (1 : Int32)) - (((ia 113 1) + (20 : Int32)) - (1 : Int32)) / (20 : Int32) * (20 : Int32))) 113 2) - (1 : Int32))) 113 1) * (13 : Int32)) + (7 : Int32)) (0 : Int32) (6 : Int32)), la, zRA pl dr cp cw rp)))))))) else K (some (.int (-1 : Int32))) (ia, la, zRA pl dr cp cw rp)) := by
  refine (Q_aload_n zm_13 (Or.inl (by decide)) D13_0 rfl).trans ?_
  refine (Q_getI zm_13 (Or.inl (by decide)) D13_1 zf_1_15 (Or.inl zs_1_2) zk_113.1).trans ?_
  refine (Q_if_ne (tgt := 9) zm_13 (Or.inl (by decide)) D13_4 (by decide)).trans ?_
  refine zif_c (fun h0_ => ?_) (fun h0_ => ?_)
  · refine (Q_aload_n zm_13 (Or.inl (by decide)) D13_9 rfl).trans ?_
    refine (Q_aload_n zm_13 (Or.inl (by decide)) D13_10 rfl).trans ?_
    refine (Q_getI zm_13 (Or.inl (by decide)) D13_11 zf_1_19 (Or.inl zs_1_1) zk_113.1).trans ?_
    refine (Q_bipush (v := 20) zm_13 (Or.inl (by decide)) D13_14 (by decide)).trans ?_
    refine (Q_iadd zm_13 (Or.inl (by decide)) D13_16).trans ?_
    refine (Q_iconst (v := 1) zm_13 (Or.inl (by decide)) D13_17 (by decide)).trans ?_
    refine (Q_isub zm_13 (Or.inl (by decide)) D13_18).trans ?_
    refine (Q_bipush (v := 20) zm_13 (Or.inl (by decide)) D13_19 (by decide)).trans ?_
    refine (Q_irem zm_13 (Or.inl (by decide)) D13_21 (by decide)).trans ?_
    refine (Q_putI zm_13 (Or.inl (by decide)) D13_22 zf_1_19 zs_1_1 rfl zk_113.1).trans ?_
    refine (Q_aload_n zm_13 (Or.inl (by decide)) D13_25 rfl).trans ?_
    refine (Q_dup zm_13 (Or.inl (by decide)) D13_26 rfl).trans ?_
    refine (Q_getI zm_13 (Or.inl (by decide)) D13_27 zf_1_15 (Or.inl zs_1_2) zk_113.1).trans ?_
    refine (Q_iconst (v := 1) zm_13 (Or.inl (by decide)) D13_30 (by decide)).trans ?_
    refine (Q_isub zm_13 (Or.inl (by decide)) D13_31).trans ?_
    refine (Q_putI zm_13 (Or.inl (by decide)) D13_32 zf_1_15 zs_1_2 rfl zk_113.1).trans ?_
    refine (Q_aload_n zm_13 (Or.inl (by decide)) D13_35 rfl).trans ?_
    refine (Q_getI zm_13 (Or.inl (by decide)) D13_36 zf_1_19 (Or.inl zs_1_1) zk_113.1).trans ?_
    refine (Q_bipush (v := 13) zm_13 (Or.inl (by decide)) D13_39 (by decide)).trans ?_
    refine (Q_imul zm_13 (Or.inl (by decide)) D13_41).trans ?_
    refine (Q_istore_n (ls' := [some (.ref 113), some (.ref w1), some (.int (((zu (zu ia 113 1 ((((ia 113 1) + (20 : Int32)) - (1 : Int32)) - (((ia 113 1) + (20 : Int32)) - (1 : Int32)) / (20 : Int32) * (20 : Int32))) 113 2 (((zu ia 113 1 ((((ia 113 1) + (20 : Int32)) - (1 : Int32)) - (((ia 113 1) + (20 : Int32)) - (1 : Int32)) / (20 : Int32) * (20 : Int32))) 113 2) - (1 : Int32))) 113 1) * (13 : Int32))), none]) zm_13 (Or.inl (by decide)) D13_42 rfl (Nat.le_of_ble_eq_true rfl) rfl).trans ?_
    refine (Q_aload_n zm_13 (Or.inl (by decide)) D13_43 rfl).trans ?_
    refine (Q_getR (q := 114) zm_13 (Or.inl (by decide)) D13_44 zf_1_11 zs_1_0 zk_113.1 rfl).trans ?_
    refine (Q_iload_n zm_13 (Or.inl (by decide)) D13_47 rfl).trans ?_
    refine (Q_iaload zm_13 (Or.inl (by decide)) D13_48 zk_114.1 zk_114.2).trans ?_
    refine zand_c (fun h1_ => ?_)
    refine (Q_istore_n (ls' := [some (.ref 113), some (.ref w1), some (.int (((zu (zu ia 113 1 ((((ia 113 1) + (20 : Int32)) - (1 : Int32)) - (((ia 113 1) + (20 : Int32)) - (1 : Int32)) / (20 : Int32) * (20 : Int32))) 113 2 (((zu ia 113 1 ((((ia 113 1) + (20 : Int32)) - (1 : Int32)) - (((ia 113 1) + (20 : Int32)) - (1 : Int32)) / (20 : Int32) * (20 : Int32))) 113 2) - (1 : Int32))) 113 1) * (13 : Int32))), some (.int ((zu (zu ia 113 1 ((((ia 113 1) + (20 : Int32)) - (1 : Int32)) - (((ia 113 1) + (20 : Int32)) - (1 : Int32)) / (20 : Int32) * (20 : Int32))) 113 2 (((zu ia 113 1 ((((ia 113 1) + (20 : Int32)) - (1 : Int32)) - (((ia 113 1) + (20 : Int32)) - (1 : Int32)) / (20 : Int32) * (20 : Int32))) 113 2) - (1 : Int32))) 114 ((((zu (zu ia 113 1 ((((ia 113 1) + (20 : Int32)) - (1 : Int32)) - (((ia 113 1) + (20 : Int32)) - (1 : Int32)) / (20 : Int32) * (20 : Int32))) 113 2 (((zu ia 113 1 ((((ia 113 1) + (20 : Int32)) - (1 : Int32)) - (((ia 113 1) + (20 : Int32)) - (1 : Int32)) / (20 : Int32) * (20 : Int32))) 113 2) - (1 : Int32))) 113 1) * (13 : Int32))).toNatClampNeg))]) zm_13 (Or.inl (by decide)) D13_49 rfl (Nat.le_of_ble_eq_true rfl) rfl).trans ?_
    refine (Q_aload_n zm_13 (Or.inl (by decide)) D13_50 rfl).trans ?_
    refine (Q_getR (q := (w1 + 3)) zm_13 (Or.inl (by decide)) D13_51 zf_1_22 zs_8_4 (zkw_0 hw1).1 (zrw_4 hw1)).trans ?_
    refine (Q_iload_n zm_13 (Or.inl (by decide)) D13_54 rfl).trans ?_
    refine (Q_aload_n zm_13 (Or.inl (by decide)) D13_55 rfl).trans ?_
    refine (Q_getR (q := 114) zm_13 (Or.inl (by decide)) D13_56 zf_1_11 zs_1_0 zk_113.1 rfl).trans ?_
    refine (Q_iload_n zm_13 (Or.inl (by decide)) D13_59 rfl).trans ?_
    refine (Q_iconst (v := 1) zm_13 (Or.inl (by decide)) D13_60 (by decide)).trans ?_
    refine (Q_iadd zm_13 (Or.inl (by decide)) D13_61).trans ?_
    refine (Q_iaload zm_13 (Or.inl (by decide)) D13_62 zk_114.1 zk_114.2).trans ?_
    refine zand_c (fun h2_ => ?_)
    refine (Q_iastore zm_13 (Or.inl (by decide)) D13_63 (zkw_3 hw1).1 (zkw_3 hw1).2).trans ?_
    refine zand_c (fun h3_ => ?_)
    refine (Q_aload_n zm_13 (Or.inl (by decide)) D13_64 rfl).trans ?_
    refine (Q_getR (q := (w1 + 4)) zm_13 (Or.inl (by decide)) D13_65 zf_1_27 zs_8_5 (zkw_0 hw1).1 (zrw_5 hw1)).trans ?_
    refine (Q_iload_n zm_13 (Or.inl (by decide)) D13_68 rfl).trans ?_
    refine (Q_aload_n zm_13 (Or.inl (by decide)) D13_69 rfl).trans ?_
    refine (Q_getR (q := 114) zm_13 (Or.inl (by decide)) D13_70 zf_1_11 zs_1_0 zk_113.1 rfl).trans ?_
    refine (Q_iload_n zm_13 (Or.inl (by decide)) D13_73 rfl).trans ?_
    refine (Q_iconst (v := 2) zm_13 (Or.inl (by decide)) D13_74 (by decide)).trans ?_
    refine (Q_iadd zm_13 (Or.inl (by decide)) D13_75).trans ?_
    refine (Q_iaload zm_13 (Or.inl (by decide)) D13_76 zk_114.1 zk_114.2).trans ?_
    refine zand_c (fun h4_ => ?_)
    refine ((Q_iastore zm_13 (Or.inl (by decide)) D13_77 (zkw_4 hw1).1 (zkw_4 hw1).2).trans (zdrop h3_)).trans ?_
    refine (Q_aload_n zm_13 (Or.inl (by decide)) D13_78 rfl).trans ?_
    refine (Q_getR (q := (w1 + 5)) zm_13 (Or.inl (by decide)) D13_79 zf_1_30 zs_8_6 (zkw_0 hw1).1 (zrw_6 hw1)).trans ?_
    refine (Q_iload_n zm_13 (Or.inl (by decide)) D13_82 rfl).trans ?_
    refine (Q_aload_n zm_13 (Or.inl (by decide)) D13_83 rfl).trans ?_
    refine (Q_getR (q := 114) zm_13 (Or.inl (by decide)) D13_84 zf_1_11 zs_1_0 zk_113.1 rfl).trans ?_
    refine (Q_iload_n zm_13 (Or.inl (by decide)) D13_87 rfl).trans ?_
    refine (Q_iconst (v := 3) zm_13 (Or.inl (by decide)) D13_88 (by decide)).trans ?_
    refine (Q_iadd zm_13 (Or.inl (by decide)) D13_89).trans ?_
    refine (Q_iaload zm_13 (Or.inl (by decide)) D13_90 zk_114.1 zk_114.2).trans ?_
    refine zand_c (fun h5_ => ?_)
    refine ((Q_iastore zm_13 (Or.inl (by decide)) D13_91 (zkw_5 hw1).1 (zkw_5 hw1).2).trans (zdrop h3_)).trans ?_
    refine (Q_aload_n zm_13 (Or.inl (by decide)) D13_92 rfl).trans ?_
    refine (Q_getR (q := 114) zm_13 (Or.inl (by decide)) D13_93 zf_1_11 zs_1_0 zk_113.1 rfl).trans ?_
    refine (Q_iload_n zm_13 (Or.inl (by decide)) D13_96 rfl).trans ?_
    refine (Q_iconst (v := 4) zm_13 (Or.inl (by decide)) D13_97 (by decide)).trans ?_
    refine (Q_iadd zm_13 (Or.inl (by decide)) D13_98).trans ?_
    refine (Q_aload_n zm_13 (Or.inl (by decide)) D13_99 rfl).trans ?_
    refine (Q_getR (q := (w1 + 2)) zm_13 (Or.inl (by decide)) D13_100 zf_1_33 zs_8_3 (zkw_0 hw1).1 (zrw_3 hw1)).trans ?_
    refine (Q_iload_n zm_13 (Or.inl (by decide)) D13_103 rfl).trans ?_
    refine (Q_iconst (v := 3) zm_13 (Or.inl (by decide)) D13_104 (by decide)).trans ?_
    refine (Q_imul zm_13 (Or.inl (by decide)) D13_105).trans ?_
    refine (Q_iconst (v := 3) zm_13 (Or.inl (by decide)) D13_106 (by decide)).trans ?_
    refine (Q_acopy (rest := []) zm_13 (Or.inl (by decide)) D13_107 zc_1_36 zk_114.1 (zkw_2 hw1).1 zk_114.2 (zkw_2 hw1).2 (by simp [zcat, Value.category])).trans ?_
    refine zand_c (fun h6_ => ?_)
    refine (Q_aload_n zm_13 (Or.inl (by decide)) D13_110 rfl).trans ?_
    refine (Q_getR (q := 114) zm_13 (Or.inl (by decide)) D13_111 zf_1_11 zs_1_0 zk_113.1 rfl).trans ?_
    refine (Q_iload_n zm_13 (Or.inl (by decide)) D13_114 rfl).trans ?_
    refine (Q_bipush (v := 7) zm_13 (Or.inl (by decide)) D13_115 (by decide)).trans ?_
    refine (Q_iadd zm_13 (Or.inl (by decide)) D13_117).trans ?_
    refine (Q_aload_n zm_13 (Or.inl (by decide)) D13_118 rfl).trans ?_
    refine (Q_getR (q := (w1 + 1)) zm_13 (Or.inl (by decide)) D13_119 zf_1_42 zs_8_2 (zkw_0 hw1).1 (zrw_2 hw1)).trans ?_
    refine (Q_iconst (v := 0) zm_13 (Or.inl (by decide)) D13_122 (by decide)).trans ?_
    refine (Q_bipush (v := 6) zm_13 (Or.inl (by decide)) D13_123 (by decide)).trans ?_
    refine (Q_acopy (rest := []) zm_13 (Or.inl (by decide)) D13_125 zc_1_36 zk_114.1 (zkw_1 hw1).1 zk_114.2 (zkw_1 hw1).2 (by simp [zcat, Value.category])).trans ?_
    refine zand_c (fun h7_ => ?_)
    refine (Q_aload_n zm_13 (Or.inl (by decide)) D13_128 rfl).trans ?_
    refine (Q_getI zm_13 (Or.inl (by decide)) D13_129 zf_1_15 (Or.inl zs_1_2) zk_113.1).trans ?_
    exact Q_ireturn zm_13 (Or.inl (by decide)) D13_132 rfl
  · refine (Q_iconst (v := -1) zm_13 (Or.inl (by decide)) D13_7 (by decide)).trans ?_
    exact Q_ireturn zm_13 (Or.inl (by decide)) D13_8 rfl

/-! HandsLet$Matching.tell(III)V -/
theorem D14_0 : decode prog_4_method_2_code 0 = .ok (.aload_n 0, 1) := by decide +kernel
theorem D14_1 : decode prog_4_method_2_code 1 = .ok (.getfield 9, 3) := by decide +kernel
theorem D14_4 : decode prog_4_method_2_code 4 = .ok (.iload_n 1, 1) := by decide +kernel
theorem D14_5 : decode prog_4_method_2_code 5 = .ok (.bipush 6, 2) := by decide +kernel
theorem D14_7 : decode prog_4_method_2_code 7 = .ok (.imul, 1) := by decide +kernel
theorem D14_8 : decode prog_4_method_2_code 8 = .ok (.iload_n 2, 1) := by decide +kernel
theorem D14_9 : decode prog_4_method_2_code 9 = .ok (.iadd, 1) := by decide +kernel
theorem D14_10 : decode prog_4_method_2_code 10 = .ok (.iload_n 3, 1) := by decide +kernel
theorem D14_11 : decode prog_4_method_2_code 11 = .ok (.iastore, 1) := by decide +kernel
theorem D14_12 : decode prog_4_method_2_code 12 = .ok (.return_, 1) := by decide +kernel

theorem b14_0 {d : Nat} {i1 : Int32} {i2 : Int32} {i3 : Int32} {ia : Nat → Nat → Int32} {la : Nat → Nat → Int64} {pl dr : Nat} {cp : Option Nat} {cw : Option Nat} {rp : Option Nat} {K : Option Value → zHP → Prop}  : zWP d 14 0 [some (.ref 115), some (.int i1), some (.int i2), some (.int i3)] [] (ia, la, zRA pl dr cp cw rp) K = (vp_in ((i1 * (6 : Int32)) + i2) 36 ∧ K none ((zu ia 116 (((i1 * (6 : Int32)) + i2)).toNatClampNeg i3), la, zRA pl dr cp cw rp)) := by
  refine (Q_aload_n zm_14 (Or.inl (by decide)) D14_0 rfl).trans ?_
  refine (Q_getR (q := 116) zm_14 (Or.inl (by decide)) D14_1 zf_2_9 zs_2_0 zk_115.1 rfl).trans ?_
  refine (Q_iload_n zm_14 (Or.inl (by decide)) D14_4 rfl).trans ?_
  refine (Q_bipush (v := 6) zm_14 (Or.inl (by decide)) D14_5 (by decide)).trans ?_
  refine (Q_imul zm_14 (Or.inl (by decide)) D14_7).trans ?_
  refine (Q_iload_n zm_14 (Or.inl (by decide)) D14_8 rfl).trans ?_
  refine (Q_iadd zm_14 (Or.inl (by decide)) D14_9).trans ?_
  refine (Q_iload_n zm_14 (Or.inl (by decide)) D14_10 rfl).trans ?_
  refine (Q_iastore zm_14 (Or.inl (by decide)) D14_11 zk_116.1 zk_116.2).trans ?_
  refine zand_c (fun h0_ => ?_)
  exact Q_return zm_14 (Or.inl (by decide)) D14_12 rfl

/-! HandsLet$Matching.solve(I)V -/
theorem D15_0 : decode prog_4_method_3_code 0 = .ok (.iconst 0, 1) := by decide +kernel
theorem D15_1 : decode prog_4_method_3_code 1 = .ok (.istore_n 2, 1) := by decide +kernel
theorem D15_2 : decode prog_4_method_3_code 2 = .ok (.iload_n 2, 1) := by decide +kernel
theorem D15_3 : decode prog_4_method_3_code 3 = .ok (.bipush 64, 2) := by decide +kernel
theorem D15_5 : decode prog_4_method_3_code 5 = .ok (.if_icmp .ge 18, 3) := by decide +kernel
theorem D15_8 : decode prog_4_method_3_code 8 = .ok (.aload_n 0, 1) := by decide +kernel
theorem D15_9 : decode prog_4_method_3_code 9 = .ok (.getfield 17, 3) := by decide +kernel
theorem D15_12 : decode prog_4_method_3_code 12 = .ok (.iload_n 1, 1) := by decide +kernel
theorem D15_13 : decode prog_4_method_3_code 13 = .ok (.aaload, 1) := by decide +kernel
theorem D15_14 : decode prog_4_method_3_code 14 = .ok (.iload_n 2, 1) := by decide +kernel
theorem D15_15 : decode prog_4_method_3_code 15 = .ok (.iconst 0, 1) := by decide +kernel
theorem D15_16 : decode prog_4_method_3_code 16 = .ok (.iastore, 1) := by decide +kernel
theorem D15_17 : decode prog_4_method_3_code 17 = .ok (.iinc 2 1, 3) := by decide +kernel
theorem D15_20 : decode prog_4_method_3_code 20 = .ok (.goto (-18), 3) := by decide +kernel
theorem D15_23 : decode prog_4_method_3_code 23 = .ok (.iload_n 1, 1) := by decide +kernel
theorem D15_24 : decode prog_4_method_3_code 24 = .ok (.iconst 1, 1) := by decide +kernel
theorem D15_25 : decode prog_4_method_3_code 25 = .ok (.isub, 1) := by decide +kernel
theorem D15_26 : decode prog_4_method_3_code 26 = .ok (.istore_n 2, 1) := by decide +kernel
theorem D15_27 : decode prog_4_method_3_code 27 = .ok (.iload_n 2, 1) := by decide +kernel
theorem D15_28 : decode prog_4_method_3_code 28 = .ok (.ifCond .lt 38, 3) := by decide +kernel
theorem D15_31 : decode prog_4_method_3_code 31 = .ok (.iconst 0, 1) := by decide +kernel
theorem D15_32 : decode prog_4_method_3_code 32 = .ok (.istore_n 3, 1) := by decide +kernel
theorem D15_33 : decode prog_4_method_3_code 33 = .ok (.iload_n 3, 1) := by decide +kernel
theorem D15_34 : decode prog_4_method_3_code 34 = .ok (.bipush 64, 2) := by decide +kernel
theorem D15_36 : decode prog_4_method_3_code 36 = .ok (.if_icmp .ge 24, 3) := by decide +kernel
theorem D15_39 : decode prog_4_method_3_code 39 = .ok (.aload_n 0, 1) := by decide +kernel
theorem D15_40 : decode prog_4_method_3_code 40 = .ok (.getfield 17, 3) := by decide +kernel
theorem D15_43 : decode prog_4_method_3_code 43 = .ok (.iload_n 2, 1) := by decide +kernel
theorem D15_44 : decode prog_4_method_3_code 44 = .ok (.aaload, 1) := by decide +kernel
theorem D15_45 : decode prog_4_method_3_code 45 = .ok (.iload_n 3, 1) := by decide +kernel
theorem D15_46 : decode prog_4_method_3_code 46 = .ok (.aload_n 0, 1) := by decide +kernel
theorem D15_47 : decode prog_4_method_3_code 47 = .ok (.iload_n 2, 1) := by decide +kernel
theorem D15_48 : decode prog_4_method_3_code 48 = .ok (.iload_n 3, 1) := by decide +kernel
theorem D15_49 : decode prog_4_method_3_code 49 = .ok (.iload_n 1, 1) := by decide +kernel
theorem D15_50 : decode prog_4_method_3_code 50 = .ok (.invokevirtual 23, 3) := by decide +kernel
theorem D15_53 : decode prog_4_method_3_code 53 = .ok (.iastore, 1) := by decide +kernel
theorem D15_54 : decode prog_4_method_3_code 54 = .ok (.iinc 3 1, 3) := by decide +kernel
theorem D15_57 : decode prog_4_method_3_code 57 = .ok (.goto (-24), 3) := by decide +kernel
theorem D15_60 : decode prog_4_method_3_code 60 = .ok (.iinc 2 (-1), 3) := by decide +kernel
theorem D15_63 : decode prog_4_method_3_code 63 = .ok (.goto (-36), 3) := by decide +kernel
theorem D15_66 : decode prog_4_method_3_code 66 = .ok (.aload_n 0, 1) := by decide +kernel
theorem D15_67 : decode prog_4_method_3_code 67 = .ok (.iload_n 1, 1) := by decide +kernel
theorem D15_68 : decode prog_4_method_3_code 68 = .ok (.invokevirtual 27, 3) := by decide +kernel
theorem D15_71 : decode prog_4_method_3_code 71 = .ok (.return_, 1) := by decide +kernel

theorem b15_0 {d : Nat} {i1 : Int32} {ia : Nat → Nat → Int32} {la : Nat → Nat → Int64} {pl dr : Nat} {cp : Option Nat} {cw : Option Nat} {rp : Option Nat} {K : Option Value → zHP → Prop}  : zWP d 15 0 [some (.ref 115), some (.int i1), none, none] [] (ia, la, zRA pl dr cp cw rp) K = zWP d 15 2 [some (.ref 115), some (.int i1), some (.int (0 : Int32)), none] [] (ia, la, zRA pl dr cp cw rp) K := by
  refine (Q_iconst (v := 0) zm_15 (Or.inl (by decide)) D15_0 (by decide)).trans ?_
  refine (Q_istore_n (ls' := [some (.ref 115), some (.int i1), some (.int (0 : Int32)), none]) zm_15 (Or.inl (by decide)) D15_1 rfl (Nat.le_of_ble_eq_true rfl) rfl).trans ?_
  rfl

theorem b15_2 {d : Nat} {i1 : Int32} {i2 : Int32} {ia : Nat → Nat → Int32} {la : Nat → Nat → Int64} {pl dr : Nat} {cp : Option Nat} {cw : Option Nat} {rp : Option Nat} {K : Option Value → zHP → Prop}  : zWP d 15 2 [some (.ref 115), some (.int i1), some (.int i2), none] [] (ia, la, zRA pl dr cp cw rp) K = (if (64 : Int32) ≤ i2 then zWP d 15 27 [some (.ref 115), some (.int i1), some (.int (i1 - (1 : Int32))), none] [] (ia, la, zRA pl dr cp cw rp) K else (vp_in i1 7 ∧ (vp_in i2 64 ∧ zWP d 15 2 [some (.ref 115), some (.int i1), some (.int (i2 + (1 : Int32))), none] [] ((zu ia (118 + (i1).toNatClampNeg) (i2).toNatClampNeg (0 : Int32)), la, zRA pl dr cp cw rp) K))) := by
  refine (Q_iload_n zm_15 (Or.inl (by decide)) D15_2 rfl).trans ?_
  refine (Q_bipush (v := 64) zm_15 (Or.inl (by decide)) D15_3 (by decide)).trans ?_
  refine (Q_ic_ge (tgt := 23) zm_15 (Or.inl (by decide)) D15_5 (by decide)).trans ?_
  refine zif_c (fun h0_ => ?_) (fun h0_ => ?_)
  · refine (Q_iload_n zm_15 (Or.inl (by decide)) D15_23 rfl).trans ?_
    refine (Q_iconst (v := 1) zm_15 (Or.inl (by decide)) D15_24 (by decide)).trans ?_
    refine (Q_isub zm_15 (Or.inl (by decide)) D15_25).trans ?_
    refine (Q_istore_n (ls' := [some (.ref 115), some (.int i1), some (.int (i1 - (1 : Int32))), none]) zm_15 (Or.inl (by decide)) D15_26 rfl (Nat.le_of_ble_eq_true rfl) rfl).trans ?_
    rfl
  · refine (Q_aload_n zm_15 (Or.inl (by decide)) D15_8 rfl).trans ?_
    refine (Q_getR (q := 117) zm_15 (Or.inl (by decide)) D15_9 zf_2_17 zs_2_1 zk_115.1 rfl).trans ?_
    refine (Q_iload_n zm_15 (Or.inl (by decide)) D15_12 rfl).trans ?_
    refine (Q_aaload (f := (fun j => 118 + j)) zm_15 (Or.inl (by decide)) D15_13 zk_117.1 zk_117.2 (zrow_m (pl := pl) (dr := dr) (cp := cp) (cw := cw) (rp := rp))).trans ?_
    refine zand_c (fun h1_ => ?_)
    refine (Q_iload_n zm_15 (Or.inl (by decide)) D15_14 rfl).trans ?_
    refine (Q_iconst (v := 0) zm_15 (Or.inl (by decide)) D15_15 (by decide)).trans ?_
    refine (Q_iastore zm_15 (Or.inl (by decide)) D15_16 (zkrow_m h1_).1 (zkrow_m h1_).2).trans ?_
    refine zand_c (fun h2_ => ?_)
    refine (Q_iinc (v := 1) (ls' := [some (.ref 115), some (.int i1), some (.int (i2 + (1 : Int32))), none]) zm_15 (Or.inl (by decide)) D15_17 rfl rfl (by decide) rfl).trans ?_
    refine (Q_goto (tgt := 2) zm_15 (Or.inl (by decide)) D15_20 (by decide)).trans ?_
    rfl

theorem b15_27 {d : Nat} {i1 : Int32} {i2 : Int32} {a3 : Option Value} {ia : Nat → Nat → Int32} {la : Nat → Nat → Int64} {pl dr : Nat} {cp : Option Nat} {cw : Option Nat} {rp : Option Nat} {K : Option Value → zHP → Prop}  : zWP (d + 1) 15 27 [some (.ref 115), some (.int i1), some (.int i2), a3] [] (ia, la, zRA pl dr cp cw rp) K = (if i2 < 0 then zWM d 19 [.ref 115, .int i1] (ia, la, zRA pl dr cp cw rp) (zK (d + 1) 15 71 [some (.ref 115), some (.int i1), some (.int i2), a3] [] K) else zWP (d + 1) 15 33 [some (.ref 115), some (.int i1), some (.int i2), some (.int (0 : Int32))] [] (ia, la, zRA pl dr cp cw rp) K) := by
  refine (Q_iload_n zm_15 (Or.inl (by decide)) D15_27 rfl).trans ?_
  refine (Q_if_lt (tgt := 66) zm_15 (Or.inl (by decide)) D15_28 (by decide)).trans ?_
  refine zif_c (fun h0_ => ?_) (fun h0_ => ?_)
  · refine (Q_aload_n zm_15 (Or.inl (by decide)) D15_66 rfl).trans ?_
    refine (Q_iload_n zm_15 (Or.inl (by decide)) D15_67 rfl).trans ?_
    exact Q_callv (as := [.int i1]) (b := 115) (rest := []) zm_15 (Or.inl (by decide)) D15_68 zc_2_27 rfl zk_115.1 (by decide) (by decide +kernel) (by decide) (by simp [zcat, Value.category]) zm_19 rfl
  · refine (Q_iconst (v := 0) zm_15 (Or.inl (by decide)) D15_31 (by decide)).trans ?_
    refine (Q_istore_n (ls' := [some (.ref 115), some (.int i1), some (.int i2), some (.int (0 : Int32))]) zm_15 (Or.inl (by decide)) D15_32 rfl (Nat.le_of_ble_eq_true rfl) rfl).trans ?_
    rfl

theorem b15_71 {d : Nat} {i1 : Int32} {i2 : Int32} {a3 : Option Value} {ia : Nat → Nat → Int32} {la : Nat → Nat → Int64} {pl dr : Nat} {cp : Option Nat} {cw : Option Nat} {rp : Option Nat} {K : Option Value → zHP → Prop}  : zWP d 15 71 [some (.ref 115), some (.int i1), some (.int i2), a3] [] (ia, la, zRA pl dr cp cw rp) K = K none (ia, la, zRA pl dr cp cw rp) := by
  exact Q_return zm_15 (Or.inl (by decide)) D15_71 rfl

theorem b15_33 {d : Nat} {i1 : Int32} {i2 : Int32} {i3 : Int32} {ia : Nat → Nat → Int32} {la : Nat → Nat → Int64} {pl dr : Nat} {cp : Option Nat} {cw : Option Nat} {rp : Option Nat} {K : Option Value → zHP → Prop}  : zWP (d + 1) 15 33 [some (.ref 115), some (.int i1), some (.int i2), some (.int i3)] [] (ia, la, zRA pl dr cp cw rp) K = (if (64 : Int32) ≤ i3 then zWP (d + 1) 15 27 [some (.ref 115), some (.int i1), some (.int (i2 + (-1 : Int32))), some (.int i3)] [] (ia, la, zRA pl dr cp cw rp) K else (vp_in i2 7 ∧ zWM d 16 [.ref 115, .int i2, .int i3, .int i1] (ia, la, zRA pl dr cp cw rp) (zK (d + 1) 15 53 [some (.ref 115), some (.int i1), some (.int i2), some (.int i3)] [.int i3, .ref (118 + (i2).toNatClampNeg)] K))) := by
  refine (Q_iload_n zm_15 (Or.inl (by decide)) D15_33 rfl).trans ?_
  refine (Q_bipush (v := 64) zm_15 (Or.inl (by decide)) D15_34 (by decide)).trans ?_
  refine (Q_ic_ge (tgt := 60) zm_15 (Or.inl (by decide)) D15_36 (by decide)).trans ?_
  refine zif_c (fun h0_ => ?_) (fun h0_ => ?_)
  · refine (Q_iinc (v := -1) (ls' := [some (.ref 115), some (.int i1), some (.int (i2 + (-1 : Int32))), some (.int i3)]) zm_15 (Or.inl (by decide)) D15_60 rfl rfl (by decide) rfl).trans ?_
    refine (Q_goto (tgt := 27) zm_15 (Or.inl (by decide)) D15_63 (by decide)).trans ?_
    rfl
  · refine (Q_aload_n zm_15 (Or.inl (by decide)) D15_39 rfl).trans ?_
    refine (Q_getR (q := 117) zm_15 (Or.inl (by decide)) D15_40 zf_2_17 zs_2_1 zk_115.1 rfl).trans ?_
    refine (Q_iload_n zm_15 (Or.inl (by decide)) D15_43 rfl).trans ?_
    refine (Q_aaload (f := (fun j => 118 + j)) zm_15 (Or.inl (by decide)) D15_44 zk_117.1 zk_117.2 (zrow_m (pl := pl) (dr := dr) (cp := cp) (cw := cw) (rp := rp))).trans ?_
    refine zand_c (fun h1_ => ?_)
    refine (Q_iload_n zm_15 (Or.inl (by decide)) D15_45 rfl).trans ?_
    refine (Q_aload_n zm_15 (Or.inl (by decide)) D15_46 rfl).trans ?_
    refine (Q_iload_n zm_15 (Or.inl (by decide)) D15_47 rfl).trans ?_
    refine (Q_iload_n zm_15 (Or.inl (by decide)) D15_48 rfl).trans ?_
    refine (Q_iload_n zm_15 (Or.inl (by decide)) D15_49 rfl).trans ?_
    exact Q_callv (as := [.int i2, .int i3, .int i1]) (b := 115) (rest := [.int i3, .ref (118 + (i2).toNatClampNeg)]) zm_15 (Or.inl (by decide)) D15_50 zc_2_23 rfl zk_115.1 (by decide) (by decide +kernel) (by decide) (by simp [zcat, Value.category]) zm_16 rfl

theorem b15_53 {d : Nat} {i1 : Int32} {i2 : Int32} {i3 : Int32} {q0 : Nat} {s1 : Int32} {s2 : Int32} {ia : Nat → Nat → Int32} {la : Nat → Nat → Int64} {pl dr : Nat} {cp : Option Nat} {cw : Option Nat} {rp : Option Nat} {K : Option Value → zHP → Prop}  : zWP d 15 53 [some (.ref 115), some (.int i1), some (.int i2), some (.int i3)] [.int s2, .int s1, .ref q0] (ia, la, zRA pl dr cp cw rp) K = ((zkd q0 = 100 ∧ vp_in s1 (zln q0)) ∧ zWP d 15 33 [some (.ref 115), some (.int i1), some (.int i2), some (.int (i3 + (1 : Int32)))] [] ((zu ia q0 (s1).toNatClampNeg s2), la, zRA pl dr cp cw rp) K) := by
  refine (Q_iastoreV zm_15 (Or.inl (by decide)) D15_53).trans ?_
  refine zand_c (fun h0_ => ?_)
  refine (Q_iinc (v := 1) (ls' := [some (.ref 115), some (.int i1), some (.int i2), some (.int (i3 + (1 : Int32)))]) zm_15 (Or.inl (by decide)) D15_54 rfl rfl (by decide) rfl).trans ?_
  refine (Q_goto (tgt := 33) zm_15 (Or.inl (by decide)) D15_57 (by decide)).trans ?_
  rfl

/-! HandsLet$Matching.bestWorth(III)I -/
theorem D16_0 : decode prog_4_method_4_code 0 = .ok (.aload_n 0, 1) := by decide +kernel
theorem D16_1 : decode prog_4_method_4_code 1 = .ok (.getfield 17, 3) := by decide +kernel
theorem D16_4 : decode prog_4_method_4_code 4 = .ok (.iload_n 1, 1) := by decide +kernel
theorem D16_5 : decode prog_4_method_4_code 5 = .ok (.iconst 1, 1) := by decide +kernel
theorem D16_6 : decode prog_4_method_4_code 6 = .ok (.iadd, 1) := by decide +kernel
theorem D16_7 : decode prog_4_method_4_code 7 = .ok (.aaload, 1) := by decide +kernel
theorem D16_8 : decode prog_4_method_4_code 8 = .ok (.iload_n 2, 1) := by decide +kernel
theorem D16_9 : decode prog_4_method_4_code 9 = .ok (.iaload, 1) := by decide +kernel
theorem D16_10 : decode prog_4_method_4_code 10 = .ok (.istore 4, 2) := by decide +kernel
theorem D16_12 : decode prog_4_method_4_code 12 = .ok (.iconst 0, 1) := by decide +kernel
theorem D16_13 : decode prog_4_method_4_code 13 = .ok (.istore 5, 2) := by decide +kernel
theorem D16_15 : decode prog_4_method_4_code 15 = .ok (.iload 5, 2) := by decide +kernel
theorem D16_17 : decode prog_4_method_4_code 17 = .ok (.iload_n 3, 1) := by decide +kernel
theorem D16_18 : decode prog_4_method_4_code 18 = .ok (.if_icmp .ge 35, 3) := by decide +kernel
theorem D16_21 : decode prog_4_method_4_code 21 = .ok (.aload_n 0, 1) := by decide +kernel
theorem D16_22 : decode prog_4_method_4_code 22 = .ok (.iload_n 1, 1) := by decide +kernel
theorem D16_23 : decode prog_4_method_4_code 23 = .ok (.iload 5, 2) := by decide +kernel
theorem D16_25 : decode prog_4_method_4_code 25 = .ok (.iload_n 2, 1) := by decide +kernel
theorem D16_26 : decode prog_4_method_4_code 26 = .ok (.invokevirtual 31, 3) := by decide +kernel
theorem D16_29 : decode prog_4_method_4_code 29 = .ok (.ifCond .eq 18, 3) := by decide +kernel
theorem D16_32 : decode prog_4_method_4_code 32 = .ok (.iload 4, 2) := by decide +kernel
theorem D16_34 : decode prog_4_method_4_code 34 = .ok (.aload_n 0, 1) := by decide +kernel
theorem D16_35 : decode prog_4_method_4_code 35 = .ok (.iload_n 1, 1) := by decide +kernel
theorem D16_36 : decode prog_4_method_4_code 36 = .ok (.iload 5, 2) := by decide +kernel
theorem D16_38 : decode prog_4_method_4_code 38 = .ok (.iload_n 2, 1) := by decide +kernel
theorem D16_39 : decode prog_4_method_4_code 39 = .ok (.invokevirtual 35, 3) := by decide +kernel
theorem D16_42 : decode prog_4_method_4_code 42 = .ok (.invokestatic 38, 3) := by decide +kernel
theorem D16_45 : decode prog_4_method_4_code 45 = .ok (.istore 4, 2) := by decide +kernel
theorem D16_47 : decode prog_4_method_4_code 47 = .ok (.iinc 5 1, 3) := by decide +kernel
theorem D16_50 : decode prog_4_method_4_code 50 = .ok (.goto (-35), 3) := by decide +kernel
theorem D16_53 : decode prog_4_method_4_code 53 = .ok (.iload 4, 2) := by decide +kernel
theorem D16_55 : decode prog_4_method_4_code 55 = .ok (.ireturn, 1) := by decide +kernel

theorem b16_0 {d : Nat} {i1 : Int32} {i2 : Int32} {i3 : Int32} {ia : Nat → Nat → Int32} {la : Nat → Nat → Int64} {pl dr : Nat} {cp : Option Nat} {cw : Option Nat} {rp : Option Nat} {K : Option Value → zHP → Prop}  : zWP d 16 0 [some (.ref 115), some (.int i1), some (.int i2), some (.int i3), none, none] [] (ia, la, zRA pl dr cp cw rp) K = (vp_in (i1 + (1 : Int32)) 7 ∧ (vp_in i2 64 ∧ zWP d 16 15 [some (.ref 115), some (.int i1), some (.int i2), some (.int i3), some (.int (ia (118 + ((i1 + (1 : Int32))).toNatClampNeg) (i2).toNatClampNeg)), some (.int (0 : Int32))] [] (ia, la, zRA pl dr cp cw rp) K)) := by
  refine (Q_aload_n zm_16 (Or.inl (by decide)) D16_0 rfl).trans ?_
  refine (Q_getR (q := 117) zm_16 (Or.inl (by decide)) D16_1 zf_2_17 zs_2_1 zk_115.1 rfl).trans ?_
  refine (Q_iload_n zm_16 (Or.inl (by decide)) D16_4 rfl).trans ?_
  refine (Q_iconst (v := 1) zm_16 (Or.inl (by decide)) D16_5 (by decide)).trans ?_
  refine (Q_iadd zm_16 (Or.inl (by decide)) D16_6).trans ?_
  refine (Q_aaload (f := (fun j => 118 + j)) zm_16 (Or.inl (by decide)) D16_7 zk_117.1 zk_117.2 (zrow_m (pl := pl) (dr := dr) (cp := cp) (cw := cw) (rp := rp))).trans ?_
  refine zand_c (fun h0_ => ?_)
  refine (Q_iload_n zm_16 (Or.inl (by decide)) D16_8 rfl).trans ?_
  refine (Q_iaload zm_16 (Or.inl (by decide)) D16_9 (zkrow_m h0_).1 (zkrow_m h0_).2).trans ?_
  refine zand_c (fun h1_ => ?_)
  refine (Q_istore (ls' := [some (.ref 115), some (.int i1), some (.int i2), some (.int i3), some (.int (ia (118 + ((i1 + (1 : Int32))).toNatClampNeg) (i2).toNatClampNeg)), none]) zm_16 (Or.inl (by decide)) D16_10 rfl (Nat.le_of_ble_eq_true rfl) rfl).trans ?_
  refine (Q_iconst (v := 0) zm_16 (Or.inl (by decide)) D16_12 (by decide)).trans ?_
  refine (Q_istore (ls' := [some (.ref 115), some (.int i1), some (.int i2), some (.int i3), some (.int (ia (118 + ((i1 + (1 : Int32))).toNatClampNeg) (i2).toNatClampNeg)), some (.int (0 : Int32))]) zm_16 (Or.inl (by decide)) D16_13 rfl (Nat.le_of_ble_eq_true rfl) rfl).trans ?_
  rfl

theorem b16_15 {d : Nat} {i1 : Int32} {i2 : Int32} {i3 : Int32} {i4 : Int32} {i5 : Int32} {ia : Nat → Nat → Int32} {la : Nat → Nat → Int64} {pl dr : Nat} {cp : Option Nat} {cw : Option Nat} {rp : Option Nat} {K : Option Value → zHP → Prop}  : zWP (d + 1) 16 15 [some (.ref 115), some (.int i1), some (.int i2), some (.int i3), some (.int i4), some (.int i5)] [] (ia, la, zRA pl dr cp cw rp) K = (if i3 ≤ i5 then K (some (.int i4)) (ia, la, zRA pl dr cp cw rp) else zWM d 17 [.ref 115, .int i1, .int i5, .int i2] (ia, la, zRA pl dr cp cw rp) (zK (d + 1) 16 29 [some (.ref 115), some (.int i1), some (.int i2), some (.int i3), some (.int i4), some (.int i5)] [] K)) := by
  refine (Q_iload zm_16 (Or.inl (by decide)) D16_15 rfl).trans ?_
  refine (Q_iload_n zm_16 (Or.inl (by decide)) D16_17 rfl).trans ?_
  refine (Q_ic_ge (tgt := 53) zm_16 (Or.inl (by decide)) D16_18 (by decide)).trans ?_
  refine zif_c (fun h0_ => ?_) (fun h0_ => ?_)
  · refine (Q_iload zm_16 (Or.inl (by decide)) D16_53 rfl).trans ?_
    exact Q_ireturn zm_16 (Or.inl (by decide)) D16_55 rfl
  · refine (Q_aload_n zm_16 (Or.inl (by decide)) D16_21 rfl).trans ?_
    refine (Q_iload_n zm_16 (Or.inl (by decide)) D16_22 rfl).trans ?_
    refine (Q_iload zm_16 (Or.inl (by decide)) D16_23 rfl).trans ?_
    refine (Q_iload_n zm_16 (Or.inl (by decide)) D16_25 rfl).trans ?_
    exact Q_callv (as := [.int i1, .int i5, .int i2]) (b := 115) (rest := []) zm_16 (Or.inl (by decide)) D16_26 zc_2_31 rfl zk_115.1 (by decide) (by decide +kernel) (by decide) (by simp [zcat, Value.category]) zm_17 rfl

theorem b16_29 {d : Nat} {i1 : Int32} {i2 : Int32} {i3 : Int32} {i4 : Int32} {i5 : Int32} {s0 : Int32} {ia : Nat → Nat → Int32} {la : Nat → Nat → Int64} {pl dr : Nat} {cp : Option Nat} {cw : Option Nat} {rp : Option Nat} {K : Option Value → zHP → Prop}  : zWP (d + 1) 16 29 [some (.ref 115), some (.int i1), some (.int i2), some (.int i3), some (.int i4), some (.int i5)] [.int s0] (ia, la, zRA pl dr cp cw rp) K = (if s0 = 0 then zWP (d + 1) 16 15 [some (.ref 115), some (.int i1), some (.int i2), some (.int i3), some (.int i4), some (.int (i5 + (1 : Int32)))] [] (ia, la, zRA pl dr cp cw rp) K else zWM d 18 [.ref 115, .int i1, .int i5, .int i2] (ia, la, zRA pl dr cp cw rp) (zK (d + 1) 16 42 [some (.ref 115), some (.int i1), some (.int i2), some (.int i3), some (.int i4), some (.int i5)] [.int i4] K)) := by
  refine (Q_if_eq (tgt := 47) zm_16 (Or.inl (by decide)) D16_29 (by decide)).trans ?_
  refine zif_c (fun h0_ => ?_) (fun h0_ => ?_)
  · refine (Q_iinc (v := 1) (ls' := [some (.ref 115), some (.int i1), some (.int i2), some (.int i3), some (.int i4), some (.int (i5 + (1 : Int32)))]) zm_16 (Or.inl (by decide)) D16_47 rfl rfl (by decide) rfl).trans ?_
    refine (Q_goto (tgt := 15) zm_16 (Or.inl (by decide)) D16_50 (by decide)).trans ?_
    rfl
  · refine (Q_iload zm_16 (Or.inl (by decide)) D16_32 rfl).trans ?_
    refine (Q_aload_n zm_16 (Or.inl (by decide)) D16_34 rfl).trans ?_
    refine (Q_iload_n zm_16 (Or.inl (by decide)) D16_35 rfl).trans ?_
    refine (Q_iload zm_16 (Or.inl (by decide)) D16_36 rfl).trans ?_
    refine (Q_iload_n zm_16 (Or.inl (by decide)) D16_38 rfl).trans ?_
    exact Q_callv (as := [.int i1, .int i5, .int i2]) (b := 115) (rest := [.int i4]) zm_16 (Or.inl (by decide)) D16_39 zc_2_35 rfl zk_115.1 (by decide) (by decide +kernel) (by decide) (by simp [zcat, Value.category]) zm_18 rfl

theorem b16_42 {d : Nat} {i1 : Int32} {i2 : Int32} {i3 : Int32} {i4 : Int32} {i5 : Int32} {s0 : Int32} {s1 : Int32} {ia : Nat → Nat → Int32} {la : Nat → Nat → Int64} {pl dr : Nat} {cp : Option Nat} {cw : Option Nat} {rp : Option Nat} {K : Option Value → zHP → Prop}  : zWP (d + 5) 16 42 [some (.ref 115), some (.int i1), some (.int i2), some (.int i3), some (.int i4), some (.int i5)] [.int s1, .int s0] (ia, la, zRA pl dr cp cw rp) K = zWP (d + 5) 16 15 [some (.ref 115), some (.int i1), some (.int i2), some (.int i3), some (.int (if s0 < s1 then s1 else s0)), some (.int (i5 + (1 : Int32)))] [] (ia, la, zRA pl dr cp cw rp) K := by
  refine (Q_bis (as := [.int s0, .int s1]) (rest := []) zm_16 (Or.inl (by decide)) D16_42 zc_2_38 rfl (by decide) (by simp [zcat, Value.category]) rfl).trans ?_
  refine (Q_istore (ls' := [some (.ref 115), some (.int i1), some (.int i2), some (.int i3), some (.int (if s0 < s1 then s1 else s0)), some (.int i5)]) zm_16 (Or.inl (by decide)) D16_45 rfl (Nat.le_of_ble_eq_true rfl) rfl).trans ?_
  refine (Q_iinc (v := 1) (ls' := [some (.ref 115), some (.int i1), some (.int i2), some (.int i3), some (.int (if s0 < s1 then s1 else s0)), some (.int (i5 + (1 : Int32)))]) zm_16 (Or.inl (by decide)) D16_47 rfl rfl (by decide) rfl).trans ?_
  refine (Q_goto (tgt := 15) zm_16 (Or.inl (by decide)) D16_50 (by decide)).trans ?_
  rfl

/-! HandsLet$Matching.fits(III)Z -/
theorem D17_0 : decode prog_4_method_5_code 0 = .ok (.iload_n 3, 1) := by decide +kernel
theorem D17_1 : decode prog_4_method_5_code 1 = .ok (.iload_n 2, 1) := by decide +kernel
theorem D17_2 : decode prog_4_method_5_code 2 = .ok (.ishr, 1) := by decide +kernel
theorem D17_3 : decode prog_4_method_5_code 3 = .ok (.iconst 1, 1) := by decide +kernel
theorem D17_4 : decode prog_4_method_5_code 4 = .ok (.iand, 1) := by decide +kernel
theorem D17_5 : decode prog_4_method_5_code 5 = .ok (.ifCond .ne 22, 3) := by decide +kernel
theorem D17_8 : decode prog_4_method_5_code 8 = .ok (.aload_n 0, 1) := by decide +kernel
theorem D17_9 : decode prog_4_method_5_code 9 = .ok (.getfield 9, 3) := by decide +kernel
theorem D17_12 : decode prog_4_method_5_code 12 = .ok (.iload_n 1, 1) := by decide +kernel
theorem D17_13 : decode prog_4_method_5_code 13 = .ok (.bipush 6, 2) := by decide +kernel
theorem D17_15 : decode prog_4_method_5_code 15 = .ok (.imul, 1) := by decide +kernel
theorem D17_16 : decode prog_4_method_5_code 16 = .ok (.iload_n 2, 1) := by decide +kernel
theorem D17_17 : decode prog_4_method_5_code 17 = .ok (.iadd, 1) := by decide +kernel
theorem D17_18 : decode prog_4_method_5_code 18 = .ok (.iaload, 1) := by decide +kernel
theorem D17_19 : decode prog_4_method_5_code 19 = .ok (.iconst (-1), 1) := by decide +kernel
theorem D17_20 : decode prog_4_method_5_code 20 = .ok (.if_icmp .eq 7, 3) := by decide +kernel
theorem D17_23 : decode prog_4_method_5_code 23 = .ok (.iconst 1, 1) := by decide +kernel
theorem D17_24 : decode prog_4_method_5_code 24 = .ok (.goto 4, 3) := by decide +kernel
theorem D17_27 : decode prog_4_method_5_code 27 = .ok (.iconst 0, 1) := by decide +kernel
theorem D17_28 : decode prog_4_method_5_code 28 = .ok (.ireturn, 1) := by decide +kernel

theorem b17_0 {d : Nat} {i1 : Int32} {i2 : Int32} {i3 : Int32} {ia : Nat → Nat → Int32} {la : Nat → Nat → Int64} {pl dr : Nat} {cp : Option Nat} {cw : Option Nat} {rp : Option Nat} {K : Option Value → zHP → Prop}  : zWP d 17 0 [some (.ref 115), some (.int i1), some (.int i2), some (.int i3)] [] (ia, la, zRA pl dr cp cw rp) K = (if ¬ ((i3 >>> (i2 &&& 31)) &&& (1 : Int32)) = 0 then K (some (.int (0 : Int32))) (ia, la, zRA pl dr cp cw rp) else (vp_in ((i1 * (6 : Int32)) + i2) 36 ∧ (if (ia 116 (((i1 * (6 : Int32)) + i2)).toNatClampNeg) = (-1 : Int32) then K (some (.int (0 : Int32))) (ia, la, zRA pl dr cp cw rp) else K (some (.int (1 : Int32))) (ia, la, zRA pl dr cp cw rp)))) := by
  refine (Q_iload_n zm_17 (Or.inl (by decide)) D17_0 rfl).trans ?_
  refine (Q_iload_n zm_17 (Or.inl (by decide)) D17_1 rfl).trans ?_
  refine (Q_ishr zm_17 (Or.inl (by decide)) D17_2).trans ?_
  refine (Q_iconst (v := 1) zm_17 (Or.inl (by decide)) D17_3 (by decide)).trans ?_
  refine (Q_iand zm_17 (Or.inl (by decide)) D17_4).trans ?_
  refine (Q_if_ne (tgt := 27) zm_17 (Or.inl (by decide)) D17_5 (by decide)).trans ?_
  refine zif_c (fun h0_ => ?_) (fun h0_ => ?_)
  · refine (Q_iconst (v := 0) zm_17 (Or.inl (by decide)) D17_27 (by decide)).trans ?_
    exact Q_zreturn zm_17 (Or.inl (by decide)) D17_28 rfl (by decide)
  · refine (Q_aload_n zm_17 (Or.inl (by decide)) D17_8 rfl).trans ?_
    refine (Q_getR (q := 116) zm_17 (Or.inl (by decide)) D17_9 zf_2_9 zs_2_0 zk_115.1 rfl).trans ?_
    refine (Q_iload_n zm_17 (Or.inl (by decide)) D17_12 rfl).trans ?_
    refine (Q_bipush (v := 6) zm_17 (Or.inl (by decide)) D17_13 (by decide)).trans ?_
    refine (Q_imul zm_17 (Or.inl (by decide)) D17_15).trans ?_
    refine (Q_iload_n zm_17 (Or.inl (by decide)) D17_16 rfl).trans ?_
    refine (Q_iadd zm_17 (Or.inl (by decide)) D17_17).trans ?_
    refine (Q_iaload zm_17 (Or.inl (by decide)) D17_18 zk_116.1 zk_116.2).trans ?_
    refine zand_c (fun h1_ => ?_)
    refine (Q_iconst (v := -1) zm_17 (Or.inl (by decide)) D17_19 (by decide)).trans ?_
    refine (Q_ic_eq (tgt := 27) zm_17 (Or.inl (by decide)) D17_20 (by decide)).trans ?_
    refine zif_c (fun h2_ => ?_) (fun h2_ => ?_)
    · refine (Q_iconst (v := 0) zm_17 (Or.inl (by decide)) D17_27 (by decide)).trans ?_
      exact Q_zreturn zm_17 (Or.inl (by decide)) D17_28 rfl (by decide)
    · refine (Q_iconst (v := 1) zm_17 (Or.inl (by decide)) D17_23 (by decide)).trans ?_
      refine (Q_goto (tgt := 28) zm_17 (Or.inl (by decide)) D17_24 (by decide)).trans ?_
      exact Q_zreturn zm_17 (Or.inl (by decide)) D17_28 rfl (by decide)

/-! HandsLet$Matching.worthWith(III)I -/
theorem D18_0 : decode prog_4_method_6_code 0 = .ok (.ldc 44, 2) := by decide +kernel
theorem D18_2 : decode prog_4_method_6_code 2 = .ok (.aload_n 0, 1) := by decide +kernel
theorem D18_3 : decode prog_4_method_6_code 3 = .ok (.getfield 9, 3) := by decide +kernel
theorem D18_6 : decode prog_4_method_6_code 6 = .ok (.iload_n 1, 1) := by decide +kernel
theorem D18_7 : decode prog_4_method_6_code 7 = .ok (.bipush 6, 2) := by decide +kernel
theorem D18_9 : decode prog_4_method_6_code 9 = .ok (.imul, 1) := by decide +kernel
theorem D18_10 : decode prog_4_method_6_code 10 = .ok (.iload_n 2, 1) := by decide +kernel
theorem D18_11 : decode prog_4_method_6_code 11 = .ok (.iadd, 1) := by decide +kernel
theorem D18_12 : decode prog_4_method_6_code 12 = .ok (.iaload, 1) := by decide +kernel
theorem D18_13 : decode prog_4_method_6_code 13 = .ok (.isub, 1) := by decide +kernel
theorem D18_14 : decode prog_4_method_6_code 14 = .ok (.aload_n 0, 1) := by decide +kernel
theorem D18_15 : decode prog_4_method_6_code 15 = .ok (.getfield 17, 3) := by decide +kernel
theorem D18_18 : decode prog_4_method_6_code 18 = .ok (.iload_n 1, 1) := by decide +kernel
theorem D18_19 : decode prog_4_method_6_code 19 = .ok (.iconst 1, 1) := by decide +kernel
theorem D18_20 : decode prog_4_method_6_code 20 = .ok (.iadd, 1) := by decide +kernel
theorem D18_21 : decode prog_4_method_6_code 21 = .ok (.aaload, 1) := by decide +kernel
theorem D18_22 : decode prog_4_method_6_code 22 = .ok (.iload_n 3, 1) := by decide +kernel
theorem D18_23 : decode prog_4_method_6_code 23 = .ok (.iconst 1, 1) := by decide +kernel
theorem D18_24 : decode prog_4_method_6_code 24 = .ok (.iload_n 2, 1) := by decide +kernel
theorem D18_25 : decode prog_4_method_6_code 25 = .ok (.ishl, 1) := by decide +kernel
theorem D18_26 : decode prog_4_method_6_code 26 = .ok (.ior, 1) := by decide +kernel
theorem D18_27 : decode prog_4_method_6_code 27 = .ok (.iaload, 1) := by decide +kernel
theorem D18_28 : decode prog_4_method_6_code 28 = .ok (.iadd, 1) := by decide +kernel
theorem D18_29 : decode prog_4_method_6_code 29 = .ok (.ireturn, 1) := by decide +kernel

theorem b18_0 {d : Nat} {i1 : Int32} {i2 : Int32} {i3 : Int32} {ia : Nat → Nat → Int32} {la : Nat → Nat → Int64} {pl dr : Nat} {cp : Option Nat} {cw : Option Nat} {rp : Option Nat} {K : Option Value → zHP → Prop}  : zWP d 18 0 [some (.ref 115), some (.int i1), some (.int i2), some (.int i3)] [] (ia, la, zRA pl dr cp cw rp) K = (vp_in ((i1 * (6 : Int32)) + i2) 36 ∧ (vp_in (i1 + (1 : Int32)) 7 ∧ (vp_in (i3 ||| ((1 : Int32) <<< (i2 &&& 31))) 64 ∧ K (some (.int (((10000000 : Int32) - (ia 116 (((i1 * (6 : Int32)) + i2)).toNatClampNeg)) + (ia (118 + ((i1 + (1 : Int32))).toNatClampNeg) ((i3 ||| ((1 : Int32) <<< (i2 &&& 31)))).toNatClampNeg)))) (ia, la, zRA pl dr cp cw rp)))) := by
  refine (Q_ldc (v := 10000000) zm_18 (Or.inl (by decide)) D18_0 (by decide +kernel)).trans ?_
  refine (Q_aload_n zm_18 (Or.inl (by decide)) D18_2 rfl).trans ?_
  refine (Q_getR (q := 116) zm_18 (Or.inl (by decide)) D18_3 zf_2_9 zs_2_0 zk_115.1 rfl).trans ?_
  refine (Q_iload_n zm_18 (Or.inl (by decide)) D18_6 rfl).trans ?_
  refine (Q_bipush (v := 6) zm_18 (Or.inl (by decide)) D18_7 (by decide)).trans ?_
  refine (Q_imul zm_18 (Or.inl (by decide)) D18_9).trans ?_
  refine (Q_iload_n zm_18 (Or.inl (by decide)) D18_10 rfl).trans ?_
  refine (Q_iadd zm_18 (Or.inl (by decide)) D18_11).trans ?_
  refine (Q_iaload zm_18 (Or.inl (by decide)) D18_12 zk_116.1 zk_116.2).trans ?_
  refine zand_c (fun h0_ => ?_)
  refine (Q_isub zm_18 (Or.inl (by decide)) D18_13).trans ?_
  refine (Q_aload_n zm_18 (Or.inl (by decide)) D18_14 rfl).trans ?_
  refine (Q_getR (q := 117) zm_18 (Or.inl (by decide)) D18_15 zf_2_17 zs_2_1 zk_115.1 rfl).trans ?_
  refine (Q_iload_n zm_18 (Or.inl (by decide)) D18_18 rfl).trans ?_
  refine (Q_iconst (v := 1) zm_18 (Or.inl (by decide)) D18_19 (by decide)).trans ?_
  refine (Q_iadd zm_18 (Or.inl (by decide)) D18_20).trans ?_
  refine (Q_aaload (f := (fun j => 118 + j)) zm_18 (Or.inl (by decide)) D18_21 zk_117.1 zk_117.2 (zrow_m (pl := pl) (dr := dr) (cp := cp) (cw := cw) (rp := rp))).trans ?_
  refine zand_c (fun h1_ => ?_)
  refine (Q_iload_n zm_18 (Or.inl (by decide)) D18_22 rfl).trans ?_
  refine (Q_iconst (v := 1) zm_18 (Or.inl (by decide)) D18_23 (by decide)).trans ?_
  refine (Q_iload_n zm_18 (Or.inl (by decide)) D18_24 rfl).trans ?_
  refine (Q_ishl zm_18 (Or.inl (by decide)) D18_25).trans ?_
  refine (Q_ior zm_18 (Or.inl (by decide)) D18_26).trans ?_
  refine (Q_iaload zm_18 (Or.inl (by decide)) D18_27 (zkrow_m h1_).1 (zkrow_m h1_).2).trans ?_
  refine zand_c (fun h2_ => ?_)
  refine (Q_iadd zm_18 (Or.inl (by decide)) D18_28).trans ?_
  exact Q_ireturn zm_18 (Or.inl (by decide)) D18_29 rfl

/-! HandsLet$Matching.choose(I)V -/
theorem D19_0 : decode prog_4_method_7_code 0 = .ok (.aload_n 0, 1) := by decide +kernel
theorem D19_1 : decode prog_4_method_7_code 1 = .ok (.iconst 0, 1) := by decide +kernel
theorem D19_2 : decode prog_4_method_7_code 2 = .ok (.putfield 45, 3) := by decide +kernel
theorem D19_5 : decode prog_4_method_7_code 5 = .ok (.aload_n 0, 1) := by decide +kernel
theorem D19_6 : decode prog_4_method_7_code 6 = .ok (.iconst 0, 1) := by decide +kernel
theorem D19_7 : decode prog_4_method_7_code 7 = .ok (.putfield 49, 3) := by decide +kernel
theorem D19_10 : decode prog_4_method_7_code 10 = .ok (.iconst 0, 1) := by decide +kernel
theorem D19_11 : decode prog_4_method_7_code 11 = .ok (.istore_n 2, 1) := by decide +kernel
theorem D19_12 : decode prog_4_method_7_code 12 = .ok (.iconst 0, 1) := by decide +kernel
theorem D19_13 : decode prog_4_method_7_code 13 = .ok (.istore_n 3, 1) := by decide +kernel
theorem D19_14 : decode prog_4_method_7_code 14 = .ok (.iload_n 3, 1) := by decide +kernel
theorem D19_15 : decode prog_4_method_7_code 15 = .ok (.iload_n 1, 1) := by decide +kernel
theorem D19_16 : decode prog_4_method_7_code 16 = .ok (.if_icmp .ge 138, 3) := by decide +kernel
theorem D19_19 : decode prog_4_method_7_code 19 = .ok (.aload_n 0, 1) := by decide +kernel
theorem D19_20 : decode prog_4_method_7_code 20 = .ok (.getfield 20, 3) := by decide +kernel
theorem D19_23 : decode prog_4_method_7_code 23 = .ok (.iload_n 3, 1) := by decide +kernel
theorem D19_24 : decode prog_4_method_7_code 24 = .ok (.bipush (-2), 2) := by decide +kernel
theorem D19_26 : decode prog_4_method_7_code 26 = .ok (.iastore, 1) := by decide +kernel
theorem D19_27 : decode prog_4_method_7_code 27 = .ok (.iconst 0, 1) := by decide +kernel
theorem D19_28 : decode prog_4_method_7_code 28 = .ok (.istore 4, 2) := by decide +kernel
theorem D19_30 : decode prog_4_method_7_code 30 = .ok (.iload 4, 2) := by decide +kernel
theorem D19_32 : decode prog_4_method_7_code 32 = .ok (.iload_n 1, 1) := by decide +kernel
theorem D19_33 : decode prog_4_method_7_code 33 = .ok (.if_icmp .ge 58, 3) := by decide +kernel
theorem D19_36 : decode prog_4_method_7_code 36 = .ok (.aload_n 0, 1) := by decide +kernel
theorem D19_37 : decode prog_4_method_7_code 37 = .ok (.getfield 20, 3) := by decide +kernel
theorem D19_40 : decode prog_4_method_7_code 40 = .ok (.iload_n 3, 1) := by decide +kernel
theorem D19_41 : decode prog_4_method_7_code 41 = .ok (.iaload, 1) := by decide +kernel
theorem D19_42 : decode prog_4_method_7_code 42 = .ok (.bipush (-2), 2) := by decide +kernel
theorem D19_44 : decode prog_4_method_7_code 44 = .ok (.if_icmp .ne 47, 3) := by decide +kernel
theorem D19_47 : decode prog_4_method_7_code 47 = .ok (.aload_n 0, 1) := by decide +kernel
theorem D19_48 : decode prog_4_method_7_code 48 = .ok (.iload_n 3, 1) := by decide +kernel
theorem D19_49 : decode prog_4_method_7_code 49 = .ok (.iload 4, 2) := by decide +kernel
theorem D19_51 : decode prog_4_method_7_code 51 = .ok (.iload_n 2, 1) := by decide +kernel
theorem D19_52 : decode prog_4_method_7_code 52 = .ok (.invokevirtual 31, 3) := by decide +kernel
theorem D19_55 : decode prog_4_method_7_code 55 = .ok (.ifCond .eq 30, 3) := by decide +kernel
theorem D19_58 : decode prog_4_method_7_code 58 = .ok (.aload_n 0, 1) := by decide +kernel
theorem D19_59 : decode prog_4_method_7_code 59 = .ok (.iload_n 3, 1) := by decide +kernel
theorem D19_60 : decode prog_4_method_7_code 60 = .ok (.iload 4, 2) := by decide +kernel
theorem D19_62 : decode prog_4_method_7_code 62 = .ok (.iload_n 2, 1) := by decide +kernel
theorem D19_63 : decode prog_4_method_7_code 63 = .ok (.invokevirtual 35, 3) := by decide +kernel
theorem D19_66 : decode prog_4_method_7_code 66 = .ok (.aload_n 0, 1) := by decide +kernel
theorem D19_67 : decode prog_4_method_7_code 67 = .ok (.getfield 17, 3) := by decide +kernel
theorem D19_70 : decode prog_4_method_7_code 70 = .ok (.iload_n 3, 1) := by decide +kernel
theorem D19_71 : decode prog_4_method_7_code 71 = .ok (.aaload, 1) := by decide +kernel
theorem D19_72 : decode prog_4_method_7_code 72 = .ok (.iload_n 2, 1) := by decide +kernel
theorem D19_73 : decode prog_4_method_7_code 73 = .ok (.iaload, 1) := by decide +kernel
theorem D19_74 : decode prog_4_method_7_code 74 = .ok (.if_icmp .ne 11, 3) := by decide +kernel
theorem D19_77 : decode prog_4_method_7_code 77 = .ok (.aload_n 0, 1) := by decide +kernel
theorem D19_78 : decode prog_4_method_7_code 78 = .ok (.getfield 20, 3) := by decide +kernel
theorem D19_81 : decode prog_4_method_7_code 81 = .ok (.iload_n 3, 1) := by decide +kernel
theorem D19_82 : decode prog_4_method_7_code 82 = .ok (.iload 4, 2) := by decide +kernel
theorem D19_84 : decode prog_4_method_7_code 84 = .ok (.iastore, 1) := by decide +kernel
theorem D19_85 : decode prog_4_method_7_code 85 = .ok (.iinc 4 1, 3) := by decide +kernel
theorem D19_88 : decode prog_4_method_7_code 88 = .ok (.goto (-58), 3) := by decide +kernel
theorem D19_91 : decode prog_4_method_7_code 91 = .ok (.aload_n 0, 1) := by decide +kernel
theorem D19_92 : decode prog_4_method_7_code 92 = .ok (.getfield 20, 3) := by decide +kernel
theorem D19_95 : decode prog_4_method_7_code 95 = .ok (.iload_n 3, 1) := by decide +kernel
theorem D19_96 : decode prog_4_method_7_code 96 = .ok (.iaload, 1) := by decide +kernel
theorem D19_97 : decode prog_4_method_7_code 97 = .ok (.bipush (-2), 2) := by decide +kernel
theorem D19_99 : decode prog_4_method_7_code 99 = .ok (.if_icmp .eq 49, 3) := by decide +kernel
theorem D19_102 : decode prog_4_method_7_code 102 = .ok (.aload_n 0, 1) := by decide +kernel
theorem D19_103 : decode prog_4_method_7_code 103 = .ok (.dup, 1) := by decide +kernel
theorem D19_104 : decode prog_4_method_7_code 104 = .ok (.getfield 45, 3) := by decide +kernel
theorem D19_107 : decode prog_4_method_7_code 107 = .ok (.iconst 1, 1) := by decide +kernel
theorem D19_108 : decode prog_4_method_7_code 108 = .ok (.iadd, 1) := by decide +kernel
theorem D19_109 : decode prog_4_method_7_code 109 = .ok (.putfield 45, 3) := by decide +kernel
theorem D19_112 : decode prog_4_method_7_code 112 = .ok (.aload_n 0, 1) := by decide +kernel
theorem D19_113 : decode prog_4_method_7_code 113 = .ok (.dup, 1) := by decide +kernel
theorem D19_114 : decode prog_4_method_7_code 114 = .ok (.getfield 49, 3) := by decide +kernel
theorem D19_117 : decode prog_4_method_7_code 117 = .ok (.aload_n 0, 1) := by decide +kernel
theorem D19_118 : decode prog_4_method_7_code 118 = .ok (.getfield 9, 3) := by decide +kernel
theorem D19_121 : decode prog_4_method_7_code 121 = .ok (.iload_n 3, 1) := by decide +kernel
theorem D19_122 : decode prog_4_method_7_code 122 = .ok (.bipush 6, 2) := by decide +kernel
theorem D19_124 : decode prog_4_method_7_code 124 = .ok (.imul, 1) := by decide +kernel
theorem D19_125 : decode prog_4_method_7_code 125 = .ok (.aload_n 0, 1) := by decide +kernel
theorem D19_126 : decode prog_4_method_7_code 126 = .ok (.getfield 20, 3) := by decide +kernel
theorem D19_129 : decode prog_4_method_7_code 129 = .ok (.iload_n 3, 1) := by decide +kernel
theorem D19_130 : decode prog_4_method_7_code 130 = .ok (.iaload, 1) := by decide +kernel
theorem D19_131 : decode prog_4_method_7_code 131 = .ok (.iadd, 1) := by decide +kernel
theorem D19_132 : decode prog_4_method_7_code 132 = .ok (.iaload, 1) := by decide +kernel
theorem D19_133 : decode prog_4_method_7_code 133 = .ok (.iadd, 1) := by decide +kernel
theorem D19_134 : decode prog_4_method_7_code 134 = .ok (.putfield 49, 3) := by decide +kernel
theorem D19_137 : decode prog_4_method_7_code 137 = .ok (.iload_n 2, 1) := by decide +kernel
theorem D19_138 : decode prog_4_method_7_code 138 = .ok (.iconst 1, 1) := by decide +kernel
theorem D19_139 : decode prog_4_method_7_code 139 = .ok (.aload_n 0, 1) := by decide +kernel
theorem D19_140 : decode prog_4_method_7_code 140 = .ok (.getfield 20, 3) := by decide +kernel
theorem D19_143 : decode prog_4_method_7_code 143 = .ok (.iload_n 3, 1) := by decide +kernel
theorem D19_144 : decode prog_4_method_7_code 144 = .ok (.iaload, 1) := by decide +kernel
theorem D19_145 : decode prog_4_method_7_code 145 = .ok (.ishl, 1) := by decide +kernel
theorem D19_146 : decode prog_4_method_7_code 146 = .ok (.ior, 1) := by decide +kernel
theorem D19_147 : decode prog_4_method_7_code 147 = .ok (.istore_n 2, 1) := by decide +kernel
theorem D19_148 : decode prog_4_method_7_code 148 = .ok (.iinc 3 1, 3) := by decide +kernel
theorem D19_151 : decode prog_4_method_7_code 151 = .ok (.goto (-137), 3) := by decide +kernel
theorem D19_154 : decode prog_4_method_7_code 154 = .ok (.return_, 1) := by decide +kernel

theorem b19_0 {d : Nat} {i1 : Int32} {ia : Nat → Nat → Int32} {la : Nat → Nat → Int64} {pl dr : Nat} {cp : Option Nat} {cw : Option Nat} {rp : Option Nat} {K : Option Value → zHP → Prop}  : zWP d 19 0 [some (.ref 115), some (.int i1), none, none, none] [] (ia, la, zRA pl dr cp cw rp) K = zWP d 19 14 [some (.ref 115), some (.int i1), some (.int (0 : Int32)), some (.int (0 : Int32)), none] [] ((zu (zu ia 115 3 (0 : Int32)) 115 4 (0 : Int32)), la, zRA pl dr cp cw rp) K := by
  refine (Q_aload_n zm_19 (Or.inl (by decide)) D19_0 rfl).trans ?_
  refine (Q_iconst (v := 0) zm_19 (Or.inl (by decide)) D19_1 (by decide)).trans ?_
  refine (Q_putI zm_19 (Or.inl (by decide)) D19_2 zf_2_45 zs_2_3 rfl zk_115.1).trans ?_
  refine (Q_aload_n zm_19 (Or.inl (by decide)) D19_5 rfl).trans ?_
  refine (Q_iconst (v := 0) zm_19 (Or.inl (by decide)) D19_6 (by decide)).trans ?_
  refine (Q_putI zm_19 (Or.inl (by decide)) D19_7 zf_2_49 zs_2_4 rfl zk_115.1).trans ?_
  refine (Q_iconst (v := 0) zm_19 (Or.inl (by decide)) D19_10 (by decide)).trans ?_
  refine (Q_istore_n (ls' := [some (.ref 115), some (.int i1), some (.int (0 : Int32)), none, none]) zm_19 (Or.inl (by decide)) D19_11 rfl (Nat.le_of_ble_eq_true rfl) rfl).trans ?_
  refine (Q_iconst (v := 0) zm_19 (Or.inl (by decide)) D19_12 (by decide)).trans ?_
  refine (Q_istore_n (ls' := [some (.ref 115), some (.int i1), some (.int (0 : Int32)), some (.int (0 : Int32)), none]) zm_19 (Or.inl (by decide)) D19_13 rfl (Nat.le_of_ble_eq_true rfl) rfl).trans ?_
  rfl

theorem b19_14 {d : Nat} {i1 : Int32} {i2 : Int32} {i3 : Int32} {a4 : Option Value} {ia : Nat → Nat → Int32} {la : Nat → Nat → Int64} {pl dr : Nat} {cp : Option Nat} {cw : Option Nat} {rp : Option Nat} {K : Option Value → zHP → Prop}  : zWP d 19 14 [some (.ref 115), some (.int i1), some (.int i2), some (.int i3), a4] [] (ia, la, zRA pl dr cp cw rp) K = (if i1 ≤ i3 then K none (ia, la, zRA pl dr cp cw rp) else (vp_in i3 6 ∧ zWP d 19 30 [some (.ref 115), some (.int i1), some (.int i2), some (.int i3), some (.int (0 : Int32))] [] ((zu ia 125 (i3).toNatClampNeg (-2 : Int32)), la, zRA pl dr cp cw rp) K)) := by
  refine (Q_iload_n zm_19 (Or.inl (by decide)) D19_14 rfl).trans ?_
  refine (Q_iload_n zm_19 (Or.inl (by decide)) D19_15 rfl).trans ?_
  refine (Q_ic_ge (tgt := 154) zm_19 (Or.inl (by decide)) D19_16 (by decide)).trans ?_
  refine zif_c (fun h0_ => ?_) (fun h0_ => ?_)
  · exact Q_return zm_19 (Or.inl (by decide)) D19_154 rfl
  · refine (Q_aload_n zm_19 (Or.inl (by decide)) D19_19 rfl).trans ?_
    refine (Q_getR (q := 125) zm_19 (Or.inl (by decide)) D19_20 zf_2_20 zs_2_2 zk_115.1 rfl).trans ?_
    refine (Q_iload_n zm_19 (Or.inl (by decide)) D19_23 rfl).trans ?_
    refine (Q_bipush (v := -2) zm_19 (Or.inl (by decide)) D19_24 (by decide)).trans ?_
    refine (Q_iastore zm_19 (Or.inl (by decide)) D19_26 zk_125.1 zk_125.2).trans ?_
    refine zand_c (fun h1_ => ?_)
    refine (Q_iconst (v := 0) zm_19 (Or.inl (by decide)) D19_27 (by decide)).trans ?_
    refine (Q_istore (ls' := [some (.ref 115), some (.int i1), some (.int i2), some (.int i3), some (.int (0 : Int32))]) zm_19 (Or.inl (by decide)) D19_28 rfl (Nat.le_of_ble_eq_true rfl) rfl).trans ?_
    rfl

theorem b19_30 {d : Nat} {i1 : Int32} {i2 : Int32} {i3 : Int32} {i4 : Int32} {ia : Nat → Nat → Int32} {la : Nat → Nat → Int64} {pl dr : Nat} {cp : Option Nat} {cw : Option Nat} {rp : Option Nat} {K : Option Value → zHP → Prop}  : zWP (d + 1) 19 30 [some (.ref 115), some (.int i1), some (.int i2), some (.int i3), some (.int i4)] [] (ia, la, zRA pl dr cp cw rp) K = (if i1 ≤ i4 then zWP (d + 1) 19 91 [some (.ref 115), some (.int i1), some (.int i2), some (.int i3), some (.int i4)] [] (ia, la, zRA pl dr cp cw rp) K else (vp_in i3 6 ∧ (if ¬ (ia 125 (i3).toNatClampNeg) = (-2 : Int32) then zWP (d + 1) 19 91 [some (.ref 115), some (.int i1), some (.int i2), some (.int i3), some (.int i4)] [] (ia, la, zRA pl dr cp cw rp) K else zWM d 17 [.ref 115, .int i3, .int i4, .int i2] (ia, la, zRA pl dr cp cw rp) (zK (d + 1) 19 55 [some (.ref 115), some (.int i1), some (.int i2), some (.int i3), some (.int i4)] [] K)))) := by
  refine (Q_iload zm_19 (Or.inl (by decide)) D19_30 rfl).trans ?_
  refine (Q_iload_n zm_19 (Or.inl (by decide)) D19_32 rfl).trans ?_
  refine (Q_ic_ge (tgt := 91) zm_19 (Or.inl (by decide)) D19_33 (by decide)).trans ?_
  refine zif_c (fun h0_ => ?_) (fun h0_ => ?_)
  · rfl
  · refine (Q_aload_n zm_19 (Or.inl (by decide)) D19_36 rfl).trans ?_
    refine (Q_getR (q := 125) zm_19 (Or.inl (by decide)) D19_37 zf_2_20 zs_2_2 zk_115.1 rfl).trans ?_
    refine (Q_iload_n zm_19 (Or.inl (by decide)) D19_40 rfl).trans ?_
    refine (Q_iaload zm_19 (Or.inl (by decide)) D19_41 zk_125.1 zk_125.2).trans ?_
    refine zand_c (fun h1_ => ?_)
    refine (Q_bipush (v := -2) zm_19 (Or.inl (by decide)) D19_42 (by decide)).trans ?_
    refine (Q_ic_ne (tgt := 91) zm_19 (Or.inl (by decide)) D19_44 (by decide)).trans ?_
    refine zif_c (fun h2_ => ?_) (fun h2_ => ?_)
    · rfl
    · refine (Q_aload_n zm_19 (Or.inl (by decide)) D19_47 rfl).trans ?_
      refine (Q_iload_n zm_19 (Or.inl (by decide)) D19_48 rfl).trans ?_
      refine (Q_iload zm_19 (Or.inl (by decide)) D19_49 rfl).trans ?_
      refine (Q_iload_n zm_19 (Or.inl (by decide)) D19_51 rfl).trans ?_
      exact Q_callv (as := [.int i3, .int i4, .int i2]) (b := 115) (rest := []) zm_19 (Or.inl (by decide)) D19_52 zc_2_31 rfl zk_115.1 (by decide) (by decide +kernel) (by decide) (by simp [zcat, Value.category]) zm_17 rfl

theorem b19_91 {d : Nat} {i1 : Int32} {i2 : Int32} {i3 : Int32} {i4 : Int32} {ia : Nat → Nat → Int32} {la : Nat → Nat → Int64} {pl dr : Nat} {cp : Option Nat} {cw : Option Nat} {rp : Option Nat} {K : Option Value → zHP → Prop}  : zWP d 19 91 [some (.ref 115), some (.int i1), some (.int i2), some (.int i3), some (.int i4)] [] (ia, la, zRA pl dr cp cw rp) K = (vp_in i3 6 ∧ (if (ia 125 (i3).toNatClampNeg) = (-2 : Int32) then zWP d 19 14 [some (.ref 115), some (.int i1), some (.int i2), some (.int (i3 + (1 : Int32))), some (.int i4)] [] (ia, la, zRA pl dr cp cw rp) K else (vp_in ((i3 * (6 : Int32)) + ((zu ia 115 3 ((ia 115 3) + (1 : Int32))) 125 (i3).toNatClampNeg)) 36 ∧ zWP d 19 14 [some (.ref 115), some (.int i1), some (.int (i2 ||| ((1 : Int32) <<< (((zu (zu ia 115 3 ((ia 115 3) + (1 : Int32))) 115 4 (((zu ia 115 3 ((ia 115 3) + (1 : Int32))) 115 4) + ((zu ia 115 3 ((ia 115 3) + (1 : Int32))) 116 (((i3 * (6 : Int32)) + ((zu ia 115 3 ((ia 115 3) + (1 : Int32))) 125 (i3).toNatClampNeg))).toNatClampNeg))) 125 (i3).toNatClampNeg) &&& 31)))), some (.int (i3 + (1 : Int32))), some (.int i4)] [] ((zu (zu ia 115 3 ((ia 115 3) + (1 : Int32))) 115 4 (((zu ia 115 3 ((ia 115 3) + (1 : Int32))) 115 4) + ((zu ia 115 3 ((ia 115 3) + (1 : Int32))) 116 (((i3 * (6 : Int32)) + ((zu ia 115 3 ((ia 115 3) + (1 : Int32))) 125 (i3).toNatClampNeg))).toNatClampNeg))), la, zRA pl dr cp cw rp) K))) := by
  refine (Q_aload_n zm_19 (Or.inl (by decide)) D19_91 rfl).trans ?_
  refine (Q_getR (q := 125) zm_19 (Or.inl (by decide)) D19_92 zf_2_20 zs_2_2 zk_115.1 rfl).trans ?_
  refine (Q_iload_n zm_19 (Or.inl (by decide)) D19_95 rfl).trans ?_
  refine (Q_iaload zm_19 (Or.inl (by decide)) D19_96 zk_125.1 zk_125.2).trans ?_
  refine zand_c (fun h0_ => ?_)
  refine (Q_bipush (v := -2) zm_19 (Or.inl (by decide)) D19_97 (by decide)).trans ?_
  refine (Q_ic_eq (tgt := 148) zm_19 (Or.inl (by decide)) D19_99 (by decide)).trans ?_
  refine zif_c (fun h1_ => ?_) (fun h1_ => ?_)
  · refine (Q_iinc (v := 1) (ls' := [some (.ref 115), some (.int i1), some (.int i2), some (.int (i3 + (1 : Int32))), some (.int i4)]) zm_19 (Or.inl (by decide)) D19_148 rfl rfl (by decide) rfl).trans ?_
    refine (Q_goto (tgt := 14) zm_19 (Or.inl (by decide)) D19_151 (by decide)).trans ?_
    rfl
  · refine (Q_aload_n zm_19 (Or.inl (by decide)) D19_102 rfl).trans ?_
    refine (Q_dup zm_19 (Or.inl (by decide)) D19_103 rfl).trans ?_
    refine (Q_getI zm_19 (Or.inl (by decide)) D19_104 zf_2_45 (Or.inl zs_2_3) zk_115.1).trans ?_
    refine (Q_iconst (v := 1) zm_19 (Or.inl (by decide)) D19_107 (by decide)).trans ?_
    refine (Q_iadd zm_19 (Or.inl (by decide)) D19_108).trans ?_
    refine (Q_putI zm_19 (Or.inl (by decide)) D19_109 zf_2_45 zs_2_3 rfl zk_115.1).trans ?_
    refine (Q_aload_n zm_19 (Or.inl (by decide)) D19_112 rfl).trans ?_
    refine (Q_dup zm_19 (Or.inl (by decide)) D19_113 rfl).trans ?_
    refine (Q_getI zm_19 (Or.inl (by decide)) D19_114 zf_2_49 (Or.inl zs_2_4) zk_115.1).trans ?_
    refine (Q_aload_n zm_19 (Or.inl (by decide)) D19_117 rfl).trans ?_
    refine (Q_getR (q := 116) zm_19 (Or.inl (by decide)) D19_118 zf_2_9 zs_2_0 zk_115.1 rfl).trans ?_
    refine (Q_iload_n zm_19 (Or.inl (by decide)) D19_121 rfl).trans ?_
    refine (Q_bipush (v := 6) zm_19 (Or.inl (by decide)) D19_122 (by decide)).trans ?_
    refine (Q_imul zm_19 (Or.inl (by decide)) D19_124).trans ?_
    refine (Q_aload_n zm_19 (Or.inl (by decide)) D19_125 rfl).trans ?_
    refine (Q_getR (q := 125) zm_19 (Or.inl (by decide)) D19_126 zf_2_20 zs_2_2 zk_115.1 rfl).trans ?_
    refine (Q_iload_n zm_19 (Or.inl (by decide)) D19_129 rfl).trans ?_
    refine ((Q_iaload zm_19 (Or.inl (by decide)) D19_130 zk_125.1 zk_125.2).trans (zdrop h0_)).trans ?_
    refine (Q_iadd zm_19 (Or.inl (by decide)) D19_131).trans ?_
    refine (Q_iaload zm_19 (Or.inl (by decide)) D19_132 zk_116.1 zk_116.2).trans ?_
    refine zand_c (fun h2_ => ?_)
    refine (Q_iadd zm_19 (Or.inl (by decide)) D19_133).trans ?_
    refine (Q_putI zm_19 (Or.inl (by decide)) D19_134 zf_2_49 zs_2_4 rfl zk_115.1).trans ?_
    refine (Q_iload_n zm_19 (Or.inl (by decide)) D19_137 rfl).trans ?_
    refine (Q_iconst (v := 1) zm_19 (Or.inl (by decide)) D19_138 (by decide)).trans ?_
    refine (Q_aload_n zm_19 (Or.inl (by decide)) D19_139 rfl).trans ?_
    refine (Q_getR (q := 125) zm_19 (Or.inl (by decide)) D19_140 zf_2_20 zs_2_2 zk_115.1 rfl).trans ?_
    refine (Q_iload_n zm_19 (Or.inl (by decide)) D19_143 rfl).trans ?_
    refine ((Q_iaload zm_19 (Or.inl (by decide)) D19_144 zk_125.1 zk_125.2).trans (zdrop h0_)).trans ?_
    refine (Q_ishl zm_19 (Or.inl (by decide)) D19_145).trans ?_
    refine (Q_ior zm_19 (Or.inl (by decide)) D19_146).trans ?_
    refine (Q_istore_n (ls' := [some (.ref 115), some (.int i1), some (.int (i2 ||| ((1 : Int32) <<< (((zu (zu ia 115 3 ((ia 115 3) + (1 : Int32))) 115 4 (((zu ia 115 3 ((ia 115 3) + (1 : Int32))) 115 4) + ((zu ia 115 3 ((ia 115 3) + (1 : Int32))) 116 (((i3 * (6 : Int32)) + ((zu ia 115 3 ((ia 115 3) + (1 : Int32))) 125 (i3).toNatClampNeg))).toNatClampNeg))) 125 (i3).toNatClampNeg) &&& 31)))), some (.int i3), some (.int i4)]) zm_19 (Or.inl (by decide)) D19_147 rfl (Nat.le_of_ble_eq_true rfl) rfl).trans ?_
    refine (Q_iinc (v := 1) (ls' := [some (.ref 115), some (.int i1), some (.int (i2 ||| ((1 : Int32) <<< (((zu (zu ia 115 3 ((ia 115 3) + (1 : Int32))) 115 4 (((zu ia 115 3 ((ia 115 3) + (1 : Int32))) 115 4) + ((zu ia 115 3 ((ia 115 3) + (1 : Int32))) 116 (((i3 * (6 : Int32)) + ((zu ia 115 3 ((ia 115 3) + (1 : Int32))) 125 (i3).toNatClampNeg))).toNatClampNeg))) 125 (i3).toNatClampNeg) &&& 31)))), some (.int (i3 + (1 : Int32))), some (.int i4)]) zm_19 (Or.inl (by decide)) D19_148 rfl rfl (by decide) rfl).trans ?_
    refine (Q_goto (tgt := 14) zm_19 (Or.inl (by decide)) D19_151 (by decide)).trans ?_
    rfl

theorem b19_55 {d : Nat} {i1 : Int32} {i2 : Int32} {i3 : Int32} {i4 : Int32} {s0 : Int32} {ia : Nat → Nat → Int32} {la : Nat → Nat → Int64} {pl dr : Nat} {cp : Option Nat} {cw : Option Nat} {rp : Option Nat} {K : Option Value → zHP → Prop}  : zWP (d + 1) 19 55 [some (.ref 115), some (.int i1), some (.int i2), some (.int i3), some (.int i4)] [.int s0] (ia, la, zRA pl dr cp cw rp) K = (if s0 = 0 then zWP (d + 1) 19 30 [some (.ref 115), some (.int i1), some (.int i2), some (.int i3), some (.int (i4 + (1 : Int32)))] [] (ia, la, zRA pl dr cp cw rp) K else zWM d 18 [.ref 115, .int i3, .int i4, .int i2] (ia, la, zRA pl dr cp cw rp) (zK (d + 1) 19 66 [some (.ref 115), some (.int i1), some (.int i2), some (.int i3), some (.int i4)] [] K)) := by
  refine (Q_if_eq (tgt := 85) zm_19 (Or.inl (by decide)) D19_55 (by decide)).trans ?_
  refine zif_c (fun h0_ => ?_) (fun h0_ => ?_)
  · refine (Q_iinc (v := 1) (ls' := [some (.ref 115), some (.int i1), some (.int i2), some (.int i3), some (.int (i4 + (1 : Int32)))]) zm_19 (Or.inl (by decide)) D19_85 rfl rfl (by decide) rfl).trans ?_
    refine (Q_goto (tgt := 30) zm_19 (Or.inl (by decide)) D19_88 (by decide)).trans ?_
    rfl
  · refine (Q_aload_n zm_19 (Or.inl (by decide)) D19_58 rfl).trans ?_
    refine (Q_iload_n zm_19 (Or.inl (by decide)) D19_59 rfl).trans ?_
    refine (Q_iload zm_19 (Or.inl (by decide)) D19_60 rfl).trans ?_
    refine (Q_iload_n zm_19 (Or.inl (by decide)) D19_62 rfl).trans ?_
    exact Q_callv (as := [.int i3, .int i4, .int i2]) (b := 115) (rest := []) zm_19 (Or.inl (by decide)) D19_63 zc_2_35 rfl zk_115.1 (by decide) (by decide +kernel) (by decide) (by simp [zcat, Value.category]) zm_18 rfl

theorem b19_66 {d : Nat} {i1 : Int32} {i2 : Int32} {i3 : Int32} {i4 : Int32} {s0 : Int32} {ia : Nat → Nat → Int32} {la : Nat → Nat → Int64} {pl dr : Nat} {cp : Option Nat} {cw : Option Nat} {rp : Option Nat} {K : Option Value → zHP → Prop}  : zWP d 19 66 [some (.ref 115), some (.int i1), some (.int i2), some (.int i3), some (.int i4)] [.int s0] (ia, la, zRA pl dr cp cw rp) K = (vp_in i3 7 ∧ (vp_in i2 64 ∧ (if ¬ s0 = (ia (118 + (i3).toNatClampNeg) (i2).toNatClampNeg) then zWP d 19 30 [some (.ref 115), some (.int i1), some (.int i2), some (.int i3), some (.int (i4 + (1 : Int32)))] [] (ia, la, zRA pl dr cp cw rp) K else (vp_in i3 6 ∧ zWP d 19 30 [some (.ref 115), some (.int i1), some (.int i2), some (.int i3), some (.int (i4 + (1 : Int32)))] [] ((zu ia 125 (i3).toNatClampNeg i4), la, zRA pl dr cp cw rp) K)))) := by
  refine (Q_aload_n zm_19 (Or.inl (by decide)) D19_66 rfl).trans ?_
  refine (Q_getR (q := 117) zm_19 (Or.inl (by decide)) D19_67 zf_2_17 zs_2_1 zk_115.1 rfl).trans ?_
  refine (Q_iload_n zm_19 (Or.inl (by decide)) D19_70 rfl).trans ?_
  refine (Q_aaload (f := (fun j => 118 + j)) zm_19 (Or.inl (by decide)) D19_71 zk_117.1 zk_117.2 (zrow_m (pl := pl) (dr := dr) (cp := cp) (cw := cw) (rp := rp))).trans ?_
  refine zand_c (fun h0_ => ?_)
  refine (Q_iload_n zm_19 (Or.inl (by decide)) D19_72 rfl).trans ?_
  refine (Q_iaload zm_19 (Or.inl (by decide)) D19_73 (zkrow_m h0_).1 (zkrow_m h0_).2).trans ?_
  refine zand_c (fun h1_ => ?_)
  refine (Q_ic_ne (tgt := 85) zm_19 (Or.inl (by decide)) D19_74 (by decide)).trans ?_
  refine zif_c (fun h2_ => ?_) (fun h2_ => ?_)
  · refine (Q_iinc (v := 1) (ls' := [some (.ref 115), some (.int i1), some (.int i2), some (.int i3), some (.int (i4 + (1 : Int32)))]) zm_19 (Or.inl (by decide)) D19_85 rfl rfl (by decide) rfl).trans ?_
    refine (Q_goto (tgt := 30) zm_19 (Or.inl (by decide)) D19_88 (by decide)).trans ?_
    rfl
  · refine (Q_aload_n zm_19 (Or.inl (by decide)) D19_77 rfl).trans ?_
    refine (Q_getR (q := 125) zm_19 (Or.inl (by decide)) D19_78 zf_2_20 zs_2_2 zk_115.1 rfl).trans ?_
    refine (Q_iload_n zm_19 (Or.inl (by decide)) D19_81 rfl).trans ?_
    refine (Q_iload zm_19 (Or.inl (by decide)) D19_82 rfl).trans ?_
    refine (Q_iastore zm_19 (Or.inl (by decide)) D19_84 zk_125.1 zk_125.2).trans ?_
    refine zand_c (fun h3_ => ?_)
    refine (Q_iinc (v := 1) (ls' := [some (.ref 115), some (.int i1), some (.int i2), some (.int i3), some (.int (i4 + (1 : Int32)))]) zm_19 (Or.inl (by decide)) D19_85 rfl rfl (by decide) rfl).trans ?_
    refine (Q_goto (tgt := 30) zm_19 (Or.inl (by decide)) D19_88 (by decide)).trans ?_
    rfl

/-! HandsLet$Plan.empty()V -/
theorem D20_0 : decode prog_5_method_2_code 0 = .ok (.aload_n 0, 1) := by decide +kernel
theorem D20_1 : decode prog_5_method_2_code 1 = .ok (.iconst 0, 1) := by decide +kernel
theorem D20_2 : decode prog_5_method_2_code 2 = .ok (.putfield 44, 3) := by decide +kernel
theorem D20_5 : decode prog_5_method_2_code 5 = .ok (.aload_n 0, 1) := by decide +kernel
theorem D20_6 : decode prog_5_method_2_code 6 = .ok (.iconst 0, 1) := by decide +kernel
theorem D20_7 : decode prog_5_method_2_code 7 = .ok (.putfield 48, 3) := by decide +kernel
theorem D20_10 : decode prog_5_method_2_code 10 = .ok (.aload_n 0, 1) := by decide +kernel
theorem D20_11 : decode prog_5_method_2_code 11 = .ok (.iconst 0, 1) := by decide +kernel
theorem D20_12 : decode prog_5_method_2_code 12 = .ok (.putfield 51, 3) := by decide +kernel
theorem D20_15 : decode prog_5_method_2_code 15 = .ok (.aload_n 0, 1) := by decide +kernel
theorem D20_16 : decode prog_5_method_2_code 16 = .ok (.iconst 0, 1) := by decide +kernel
theorem D20_17 : decode prog_5_method_2_code 17 = .ok (.putfield 54, 3) := by decide +kernel
theorem D20_20 : decode prog_5_method_2_code 20 = .ok (.aload_n 0, 1) := by decide +kernel
theorem D20_21 : decode prog_5_method_2_code 21 = .ok (.iconst 0, 1) := by decide +kernel
theorem D20_22 : decode prog_5_method_2_code 22 = .ok (.putfield 57, 3) := by decide +kernel
theorem D20_25 : decode prog_5_method_2_code 25 = .ok (.aload_n 0, 1) := by decide +kernel
theorem D20_26 : decode prog_5_method_2_code 26 = .ok (.getfield 29, 3) := by decide +kernel
theorem D20_29 : decode prog_5_method_2_code 29 = .ok (.iconst 0, 1) := by decide +kernel
theorem D20_30 : decode prog_5_method_2_code 30 = .ok (.bipush 20, 2) := by decide +kernel
theorem D20_32 : decode prog_5_method_2_code 32 = .ok (.iastore, 1) := by decide +kernel
theorem D20_33 : decode prog_5_method_2_code 33 = .ok (.aload_n 0, 1) := by decide +kernel
theorem D20_34 : decode prog_5_method_2_code 34 = .ok (.getfield 29, 3) := by decide +kernel
theorem D20_37 : decode prog_5_method_2_code 37 = .ok (.iconst 1, 1) := by decide +kernel
theorem D20_38 : decode prog_5_method_2_code 38 = .ok (.iconst 0, 1) := by decide +kernel
theorem D20_39 : decode prog_5_method_2_code 39 = .ok (.iastore, 1) := by decide +kernel
theorem D20_40 : decode prog_5_method_2_code 40 = .ok (.aload_n 0, 1) := by decide +kernel
theorem D20_41 : decode prog_5_method_2_code 41 = .ok (.getfield 29, 3) := by decide +kernel
theorem D20_44 : decode prog_5_method_2_code 44 = .ok (.iconst 2, 1) := by decide +kernel
theorem D20_45 : decode prog_5_method_2_code 45 = .ok (.iconst 0, 1) := by decide +kernel
theorem D20_46 : decode prog_5_method_2_code 46 = .ok (.iastore, 1) := by decide +kernel
theorem D20_47 : decode prog_5_method_2_code 47 = .ok (.iconst 0, 1) := by decide +kernel
theorem D20_48 : decode prog_5_method_2_code 48 = .ok (.istore_n 1, 1) := by decide +kernel
theorem D20_49 : decode prog_5_method_2_code 49 = .ok (.iload_n 1, 1) := by decide +kernel
theorem D20_50 : decode prog_5_method_2_code 50 = .ok (.iconst 3, 1) := by decide +kernel
theorem D20_51 : decode prog_5_method_2_code 51 = .ok (.if_icmp .ge 23, 3) := by decide +kernel
theorem D20_54 : decode prog_5_method_2_code 54 = .ok (.aload_n 0, 1) := by decide +kernel
theorem D20_55 : decode prog_5_method_2_code 55 = .ok (.getfield 32, 3) := by decide +kernel
theorem D20_58 : decode prog_5_method_2_code 58 = .ok (.iload_n 1, 1) := by decide +kernel
theorem D20_59 : decode prog_5_method_2_code 59 = .ok (.iconst 0, 1) := by decide +kernel
theorem D20_60 : decode prog_5_method_2_code 60 = .ok (.iastore, 1) := by decide +kernel
theorem D20_61 : decode prog_5_method_2_code 61 = .ok (.aload_n 0, 1) := by decide +kernel
theorem D20_62 : decode prog_5_method_2_code 62 = .ok (.getfield 35, 3) := by decide +kernel
theorem D20_65 : decode prog_5_method_2_code 65 = .ok (.iload_n 1, 1) := by decide +kernel
theorem D20_66 : decode prog_5_method_2_code 66 = .ok (.iconst 0, 1) := by decide +kernel
theorem D20_67 : decode prog_5_method_2_code 67 = .ok (.iastore, 1) := by decide +kernel
theorem D20_68 : decode prog_5_method_2_code 68 = .ok (.iinc 1 1, 3) := by decide +kernel
theorem D20_71 : decode prog_5_method_2_code 71 = .ok (.goto (-22), 3) := by decide +kernel
theorem D20_74 : decode prog_5_method_2_code 74 = .ok (.return_, 1) := by decide +kernel

theorem b20_0 {d : Nat} {p0 : Nat} {ia : Nat → Nat → Int32} {la : Nat → Nat → Int64} {pl dr : Nat} {cp : Option Nat} {cw : Option Nat} {rp : Option Nat} {K : Option Value → zHP → Prop} (hp0 : zIsP p0) : zWP d 20 0 [some (.ref p0), none] [] (ia, la, zRA pl dr cp cw rp) K = zWP d 20 49 [some (.ref p0), some (.int (0 : Int32))] [] ((zu (zu (zu (zu (zu (zu (zu (zu ia p0 0 (0 : Int32)) p0 1 (0 : Int32)) p0 2 (0 : Int32)) p0 3 (0 : Int32)) p0 4 (0 : Int32)) (p0 + 28) 0 (20 : Int32)) (p0 + 28) 1 (0 : Int32)) (p0 + 28) 2 (0 : Int32)), la, zRA pl dr cp cw rp) K := by
  refine (Q_aload_n zm_20 (Or.inl (by decide)) D20_0 rfl).trans ?_
  refine (Q_iconst (v := 0) zm_20 (Or.inl (by decide)) D20_1 (by decide)).trans ?_
  refine (Q_putI zm_20 (Or.inl (by decide)) D20_2 zf_3_44 zs_3_0 rfl (zkp_0 hp0).1).trans ?_
  refine (Q_aload_n zm_20 (Or.inl (by decide)) D20_5 rfl).trans ?_
  refine (Q_iconst (v := 0) zm_20 (Or.inl (by decide)) D20_6 (by decide)).trans ?_
  refine (Q_putI zm_20 (Or.inl (by decide)) D20_7 zf_3_48 zs_3_1 rfl (zkp_0 hp0).1).trans ?_
  refine (Q_aload_n zm_20 (Or.inl (by decide)) D20_10 rfl).trans ?_
  refine (Q_iconst (v := 0) zm_20 (Or.inl (by decide)) D20_11 (by decide)).trans ?_
  refine (Q_putI zm_20 (Or.inl (by decide)) D20_12 zf_3_51 zs_3_2 rfl (zkp_0 hp0).1).trans ?_
  refine (Q_aload_n zm_20 (Or.inl (by decide)) D20_15 rfl).trans ?_
  refine (Q_iconst (v := 0) zm_20 (Or.inl (by decide)) D20_16 (by decide)).trans ?_
  refine (Q_putI zm_20 (Or.inl (by decide)) D20_17 zf_3_54 zs_3_3 rfl (zkp_0 hp0).1).trans ?_
  refine (Q_aload_n zm_20 (Or.inl (by decide)) D20_20 rfl).trans ?_
  refine (Q_iconst (v := 0) zm_20 (Or.inl (by decide)) D20_21 (by decide)).trans ?_
  refine (Q_putI zm_20 (Or.inl (by decide)) D20_22 zf_3_57 zs_3_4 rfl (zkp_0 hp0).1).trans ?_
  refine (Q_aload_n zm_20 (Or.inl (by decide)) D20_25 rfl).trans ?_
  refine (Q_getR (q := (p0 + 28)) zm_20 (Or.inl (by decide)) D20_26 zf_3_29 zs_3_10 (zkp_0 hp0).1 (zrp_10 hp0)).trans ?_
  refine (Q_iconst (v := 0) zm_20 (Or.inl (by decide)) D20_29 (by decide)).trans ?_
  refine (Q_bipush (v := 20) zm_20 (Or.inl (by decide)) D20_30 (by decide)).trans ?_
  refine ((Q_iastore zm_20 (Or.inl (by decide)) D20_32 (zkp_28 hp0).1 (zkp_28 hp0).2).trans (zdrop (zin_spec (by decide)))).trans ?_
  refine (Q_aload_n zm_20 (Or.inl (by decide)) D20_33 rfl).trans ?_
  refine (Q_getR (q := (p0 + 28)) zm_20 (Or.inl (by decide)) D20_34 zf_3_29 zs_3_10 (zkp_0 hp0).1 (zrp_10 hp0)).trans ?_
  refine (Q_iconst (v := 1) zm_20 (Or.inl (by decide)) D20_37 (by decide)).trans ?_
  refine (Q_iconst (v := 0) zm_20 (Or.inl (by decide)) D20_38 (by decide)).trans ?_
  refine ((Q_iastore zm_20 (Or.inl (by decide)) D20_39 (zkp_28 hp0).1 (zkp_28 hp0).2).trans (zdrop (zin_spec (by decide)))).trans ?_
  refine (Q_aload_n zm_20 (Or.inl (by decide)) D20_40 rfl).trans ?_
  refine (Q_getR (q := (p0 + 28)) zm_20 (Or.inl (by decide)) D20_41 zf_3_29 zs_3_10 (zkp_0 hp0).1 (zrp_10 hp0)).trans ?_
  refine (Q_iconst (v := 2) zm_20 (Or.inl (by decide)) D20_44 (by decide)).trans ?_
  refine (Q_iconst (v := 0) zm_20 (Or.inl (by decide)) D20_45 (by decide)).trans ?_
  refine ((Q_iastore zm_20 (Or.inl (by decide)) D20_46 (zkp_28 hp0).1 (zkp_28 hp0).2).trans (zdrop (zin_spec (by decide)))).trans ?_
  refine (Q_iconst (v := 0) zm_20 (Or.inl (by decide)) D20_47 (by decide)).trans ?_
  refine (Q_istore_n (ls' := [some (.ref p0), some (.int (0 : Int32))]) zm_20 (Or.inl (by decide)) D20_48 rfl (Nat.le_of_ble_eq_true rfl) rfl).trans ?_
  rfl

theorem b20_49 {d : Nat} {p0 : Nat} {i1 : Int32} {ia : Nat → Nat → Int32} {la : Nat → Nat → Int64} {pl dr : Nat} {cp : Option Nat} {cw : Option Nat} {rp : Option Nat} {K : Option Value → zHP → Prop} (hp0 : zIsP p0) : zWP d 20 49 [some (.ref p0), some (.int i1)] [] (ia, la, zRA pl dr cp cw rp) K = (if (3 : Int32) ≤ i1 then K none (ia, la, zRA pl dr cp cw rp) else (vp_in i1 3 ∧ zWP d 20 49 [some (.ref p0), some (.int (i1 + (1 : Int32)))] [] ((zu (zu ia (p0 + 29) (i1).toNatClampNeg (0 : Int32)) (p0 + 30) (i1).toNatClampNeg (0 : Int32)), la, zRA pl dr cp cw rp) K)) := by
  refine (Q_iload_n zm_20 (Or.inl (by decide)) D20_49 rfl).trans ?_
  refine (Q_iconst (v := 3) zm_20 (Or.inl (by decide)) D20_50 (by decide)).trans ?_
  refine (Q_ic_ge (tgt := 74) zm_20 (Or.inl (by decide)) D20_51 (by decide)).trans ?_
  refine zif_c (fun h0_ => ?_) (fun h0_ => ?_)
  · exact Q_return zm_20 (Or.inl (by decide)) D20_74 rfl
  · refine (Q_aload_n zm_20 (Or.inl (by decide)) D20_54 rfl).trans ?_
    refine (Q_getR (q := (p0 + 29)) zm_20 (Or.inl (by decide)) D20_55 zf_3_32 zs_3_11 (zkp_0 hp0).1 (zrp_11 hp0)).trans ?_
    refine (Q_iload_n zm_20 (Or.inl (by decide)) D20_58 rfl).trans ?_
    refine (Q_iconst (v := 0) zm_20 (Or.inl (by decide)) D20_59 (by decide)).trans ?_
    refine (Q_iastore zm_20 (Or.inl (by decide)) D20_60 (zkp_29 hp0).1 (zkp_29 hp0).2).trans ?_
    refine zand_c (fun h1_ => ?_)
    refine (Q_aload_n zm_20 (Or.inl (by decide)) D20_61 rfl).trans ?_
    refine (Q_getR (q := (p0 + 30)) zm_20 (Or.inl (by decide)) D20_62 zf_3_35 zs_3_12 (zkp_0 hp0).1 (zrp_12 hp0)).trans ?_
    refine (Q_iload_n zm_20 (Or.inl (by decide)) D20_65 rfl).trans ?_
    refine (Q_iconst (v := 0) zm_20 (Or.inl (by decide)) D20_66 (by decide)).trans ?_
    refine ((Q_iastore zm_20 (Or.inl (by decide)) D20_67 (zkp_30 hp0).1 (zkp_30 hp0).2).trans (zdrop h1_)).trans ?_
    refine (Q_iinc (v := 1) (ls' := [some (.ref p0), some (.int (i1 + (1 : Int32)))]) zm_20 (Or.inl (by decide)) D20_68 rfl rfl (by decide) rfl).trans ?_
    refine (Q_goto (tgt := 49) zm_20 (Or.inl (by decide)) D20_71 (by decide)).trans ?_
    rfl

/-! HandsLet$Plan.personNamed(I)I -/
theorem D21_0 : decode prog_5_method_3_code 0 = .ok (.iconst 0, 1) := by decide +kernel
theorem D21_1 : decode prog_5_method_3_code 1 = .ok (.istore_n 2, 1) := by decide +kernel
theorem D21_2 : decode prog_5_method_3_code 2 = .ok (.iload_n 2, 1) := by decide +kernel
theorem D21_3 : decode prog_5_method_3_code 3 = .ok (.aload_n 0, 1) := by decide +kernel
theorem D21_4 : decode prog_5_method_3_code 4 = .ok (.getfield 48, 3) := by decide +kernel
theorem D21_7 : decode prog_5_method_3_code 7 = .ok (.if_icmp .ge 21, 3) := by decide +kernel
theorem D21_10 : decode prog_5_method_3_code 10 = .ok (.aload_n 0, 1) := by decide +kernel
theorem D21_11 : decode prog_5_method_3_code 11 = .ok (.getfield 9, 3) := by decide +kernel
theorem D21_14 : decode prog_5_method_3_code 14 = .ok (.iload_n 2, 1) := by decide +kernel
theorem D21_15 : decode prog_5_method_3_code 15 = .ok (.iaload, 1) := by decide +kernel
theorem D21_16 : decode prog_5_method_3_code 16 = .ok (.iload_n 1, 1) := by decide +kernel
theorem D21_17 : decode prog_5_method_3_code 17 = .ok (.if_icmp .ne 5, 3) := by decide +kernel
theorem D21_20 : decode prog_5_method_3_code 20 = .ok (.iload_n 2, 1) := by decide +kernel
theorem D21_21 : decode prog_5_method_3_code 21 = .ok (.ireturn, 1) := by decide +kernel
theorem D21_22 : decode prog_5_method_3_code 22 = .ok (.iinc 2 1, 3) := by decide +kernel
theorem D21_25 : decode prog_5_method_3_code 25 = .ok (.goto (-23), 3) := by decide +kernel
theorem D21_28 : decode prog_5_method_3_code 28 = .ok (.iconst (-1), 1) := by decide +kernel
theorem D21_29 : decode prog_5_method_3_code 29 = .ok (.ireturn, 1) := by decide +kernel

theorem b21_0 {d : Nat} {p0 : Nat} {i1 : Int32} {ia : Nat → Nat → Int32} {la : Nat → Nat → Int64} {pl dr : Nat} {cp : Option Nat} {cw : Option Nat} {rp : Option Nat} {K : Option Value → zHP → Prop} (hp0 : zIsP p0) : zWP d 21 0 [some (.ref p0), some (.int i1), none] [] (ia, la, zRA pl dr cp cw rp) K = zWP d 21 2 [some (.ref p0), some (.int i1), some (.int (0 : Int32))] [] (ia, la, zRA pl dr cp cw rp) K := by
  refine (Q_iconst (v := 0) zm_21 (Or.inl (by decide)) D21_0 (by decide)).trans ?_
  refine (Q_istore_n (ls' := [some (.ref p0), some (.int i1), some (.int (0 : Int32))]) zm_21 (Or.inl (by decide)) D21_1 rfl (Nat.le_of_ble_eq_true rfl) rfl).trans ?_
  rfl

theorem b21_2 {d : Nat} {p0 : Nat} {i1 : Int32} {i2 : Int32} {ia : Nat → Nat → Int32} {la : Nat → Nat → Int64} {pl dr : Nat} {cp : Option Nat} {cw : Option Nat} {rp : Option Nat} {K : Option Value → zHP → Prop} (hp0 : zIsP p0) : zWP d 21 2 [some (.ref p0), some (.int i1), some (.int i2)] [] (ia, la, zRA pl dr cp cw rp) K = (if (ia p0 1) ≤ i2 then K (some (.int (-1 : Int32))) (ia, la, zRA pl dr cp cw rp) else (vp_in i2 6 ∧ (if ¬ (ia (p0 + 1) (i2).toNatClampNeg) = i1 then zWP d 21 2 [some (.ref p0), some (.int i1), some (.int (i2 + (1 : Int32)))] [] (ia, la, zRA pl dr cp cw rp) K else K (some (.int i2)) (ia, la, zRA pl dr cp cw rp)))) := by
  refine (Q_iload_n zm_21 (Or.inl (by decide)) D21_2 rfl).trans ?_
  refine (Q_aload_n zm_21 (Or.inl (by decide)) D21_3 rfl).trans ?_
  refine (Q_getI zm_21 (Or.inl (by decide)) D21_4 zf_3_48 (Or.inl zs_3_1) (zkp_0 hp0).1).trans ?_
  refine (Q_ic_ge (tgt := 28) zm_21 (Or.inl (by decide)) D21_7 (by decide)).trans ?_
  refine zif_c (fun h0_ => ?_) (fun h0_ => ?_)
  · refine (Q_iconst (v := -1) zm_21 (Or.inl (by decide)) D21_28 (by decide)).trans ?_
    exact Q_ireturn zm_21 (Or.inl (by decide)) D21_29 rfl
  · refine (Q_aload_n zm_21 (Or.inl (by decide)) D21_10 rfl).trans ?_
    refine (Q_getR (q := (p0 + 1)) zm_21 (Or.inl (by decide)) D21_11 zf_3_9 zs_3_5 (zkp_0 hp0).1 (zrp_5 hp0)).trans ?_
    refine (Q_iload_n zm_21 (Or.inl (by decide)) D21_14 rfl).trans ?_
    refine (Q_iaload zm_21 (Or.inl (by decide)) D21_15 (zkp_1 hp0).1 (zkp_1 hp0).2).trans ?_
    refine zand_c (fun h1_ => ?_)
    refine (Q_iload_n zm_21 (Or.inl (by decide)) D21_16 rfl).trans ?_
    refine (Q_ic_ne (tgt := 22) zm_21 (Or.inl (by decide)) D21_17 (by decide)).trans ?_
    refine zif_c (fun h2_ => ?_) (fun h2_ => ?_)
    · refine (Q_iinc (v := 1) (ls' := [some (.ref p0), some (.int i1), some (.int (i2 + (1 : Int32)))]) zm_21 (Or.inl (by decide)) D21_22 rfl rfl (by decide) rfl).trans ?_
      refine (Q_goto (tgt := 2) zm_21 (Or.inl (by decide)) D21_25 (by decide)).trans ?_
      rfl
    · refine (Q_iload_n zm_21 (Or.inl (by decide)) D21_20 rfl).trans ?_
      exact Q_ireturn zm_21 (Or.inl (by decide)) D21_21 rfl

/-! HandsLet$Reader.read(ILHandsLet$Plan;)V -/
theorem D22_0 : decode prog_6_method_2_code 0 = .ok (.aload_n 0, 1) := by decide +kernel
theorem D22_1 : decode prog_6_method_2_code 1 = .ok (.aload_n 2, 1) := by decide +kernel
theorem D22_2 : decode prog_6_method_2_code 2 = .ok (.putfield 26, 3) := by decide +kernel
theorem D22_5 : decode prog_6_method_2_code 5 = .ok (.aload_n 0, 1) := by decide +kernel
theorem D22_6 : decode prog_6_method_2_code 6 = .ok (.getfield 26, 3) := by decide +kernel
theorem D22_9 : decode prog_6_method_2_code 9 = .ok (.invokevirtual 30, 3) := by decide +kernel
theorem D22_12 : decode prog_6_method_2_code 12 = .ok (.aload_n 0, 1) := by decide +kernel
theorem D22_13 : decode prog_6_method_2_code 13 = .ok (.iconst 0, 1) := by decide +kernel
theorem D22_14 : decode prog_6_method_2_code 14 = .ok (.putfield 35, 3) := by decide +kernel
theorem D22_17 : decode prog_6_method_2_code 17 = .ok (.aload_n 0, 1) := by decide +kernel
theorem D22_18 : decode prog_6_method_2_code 18 = .ok (.iconst 0, 1) := by decide +kernel
theorem D22_19 : decode prog_6_method_2_code 19 = .ok (.putfield 38, 3) := by decide +kernel
theorem D22_22 : decode prog_6_method_2_code 22 = .ok (.aload_n 0, 1) := by decide +kernel
theorem D22_23 : decode prog_6_method_2_code 23 = .ok (.iconst 0, 1) := by decide +kernel
theorem D22_24 : decode prog_6_method_2_code 24 = .ok (.putfield 41, 3) := by decide +kernel
theorem D22_27 : decode prog_6_method_2_code 27 = .ok (.aload_n 0, 1) := by decide +kernel
theorem D22_28 : decode prog_6_method_2_code 28 = .ok (.iconst (-1), 1) := by decide +kernel
theorem D22_29 : decode prog_6_method_2_code 29 = .ok (.putfield 18, 3) := by decide +kernel
theorem D22_32 : decode prog_6_method_2_code 32 = .ok (.aload_n 0, 1) := by decide +kernel
theorem D22_33 : decode prog_6_method_2_code 33 = .ok (.getfield 12, 3) := by decide +kernel
theorem D22_36 : decode prog_6_method_2_code 36 = .ok (.iload_n 1, 1) := by decide +kernel
theorem D22_37 : decode prog_6_method_2_code 37 = .ok (.invokevirtual 44, 3) := by decide +kernel
theorem D22_40 : decode prog_6_method_2_code 40 = .ok (.iconst 0, 1) := by decide +kernel
theorem D22_41 : decode prog_6_method_2_code 41 = .ok (.istore_n 3, 1) := by decide +kernel
theorem D22_42 : decode prog_6_method_2_code 42 = .ok (.iload_n 3, 1) := by decide +kernel
theorem D22_43 : decode prog_6_method_2_code 43 = .ok (.sipush 700, 3) := by decide +kernel
theorem D22_46 : decode prog_6_method_2_code 46 = .ok (.if_icmp .ge 126, 3) := by decide +kernel
theorem D22_49 : decode prog_6_method_2_code 49 = .ok (.aload_n 0, 1) := by decide +kernel
theorem D22_50 : decode prog_6_method_2_code 50 = .ok (.getfield 41, 3) := by decide +kernel
theorem D22_53 : decode prog_6_method_2_code 53 = .ok (.ifCond .ne 119, 3) := by decide +kernel
theorem D22_56 : decode prog_6_method_2_code 56 = .ok (.aload_n 0, 1) := by decide +kernel
theorem D22_57 : decode prog_6_method_2_code 57 = .ok (.getfield 12, 3) := by decide +kernel
theorem D22_60 : decode prog_6_method_2_code 60 = .ok (.getfield 48, 3) := by decide +kernel
theorem D22_63 : decode prog_6_method_2_code 63 = .ok (.ifCond .eq 109, 3) := by decide +kernel
theorem D22_66 : decode prog_6_method_2_code 66 = .ok (.aload_n 0, 1) := by decide +kernel
theorem D22_67 : decode prog_6_method_2_code 67 = .ok (.getfield 12, 3) := by decide +kernel
theorem D22_70 : decode prog_6_method_2_code 70 = .ok (.getfield 48, 3) := by decide +kernel
theorem D22_73 : decode prog_6_method_2_code 73 = .ok (.tableswitch 71 20 26 #[43, 50, 57, 71, 71, 71, 64], 43) := by decide +kernel
theorem D22_116 : decode prog_6_method_2_code 116 = .ok (.aload_n 0, 1) := by decide +kernel
theorem D22_117 : decode prog_6_method_2_code 117 = .ok (.invokevirtual 51, 3) := by decide +kernel
theorem D22_120 : decode prog_6_method_2_code 120 = .ok (.goto 28, 3) := by decide +kernel
theorem D22_123 : decode prog_6_method_2_code 123 = .ok (.aload_n 0, 1) := by decide +kernel
theorem D22_124 : decode prog_6_method_2_code 124 = .ok (.invokevirtual 54, 3) := by decide +kernel
theorem D22_127 : decode prog_6_method_2_code 127 = .ok (.goto 21, 3) := by decide +kernel
theorem D22_130 : decode prog_6_method_2_code 130 = .ok (.aload_n 0, 1) := by decide +kernel
theorem D22_131 : decode prog_6_method_2_code 131 = .ok (.invokevirtual 57, 3) := by decide +kernel
theorem D22_134 : decode prog_6_method_2_code 134 = .ok (.goto 14, 3) := by decide +kernel
theorem D22_137 : decode prog_6_method_2_code 137 = .ok (.aload_n 0, 1) := by decide +kernel
theorem D22_138 : decode prog_6_method_2_code 138 = .ok (.invokevirtual 60, 3) := by decide +kernel
theorem D22_141 : decode prog_6_method_2_code 141 = .ok (.goto 7, 3) := by decide +kernel
theorem D22_144 : decode prog_6_method_2_code 144 = .ok (.aload_n 0, 1) := by decide +kernel
theorem D22_145 : decode prog_6_method_2_code 145 = .ok (.invokevirtual 63, 3) := by decide +kernel
theorem D22_148 : decode prog_6_method_2_code 148 = .ok (.aload_n 0, 1) := by decide +kernel
theorem D22_149 : decode prog_6_method_2_code 149 = .ok (.iconst 4, 1) := by decide +kernel
theorem D22_150 : decode prog_6_method_2_code 150 = .ok (.invokevirtual 66, 3) := by decide +kernel
theorem D22_153 : decode prog_6_method_2_code 153 = .ok (.aload_n 0, 1) := by decide +kernel
theorem D22_154 : decode prog_6_method_2_code 154 = .ok (.getfield 26, 3) := by decide +kernel
theorem D22_157 : decode prog_6_method_2_code 157 = .ok (.dup, 1) := by decide +kernel
theorem D22_158 : decode prog_6_method_2_code 158 = .ok (.getfield 69, 3) := by decide +kernel
theorem D22_161 : decode prog_6_method_2_code 161 = .ok (.iconst 1, 1) := by decide +kernel
theorem D22_162 : decode prog_6_method_2_code 162 = .ok (.iadd, 1) := by decide +kernel
theorem D22_163 : decode prog_6_method_2_code 163 = .ok (.putfield 69, 3) := by decide +kernel
theorem D22_166 : decode prog_6_method_2_code 166 = .ok (.iinc 3 1, 3) := by decide +kernel
theorem D22_169 : decode prog_6_method_2_code 169 = .ok (.goto (-127), 3) := by decide +kernel
theorem D22_172 : decode prog_6_method_2_code 172 = .ok (.return_, 1) := by decide +kernel

theorem b22_0 {d : Nat} {i1 : Int32} {p2 : Nat} {ia : Nat → Nat → Int32} {la : Nat → Nat → Int64} {pl dr : Nat} {cp : Option Nat} {cw : Option Nat} {rp : Option Nat} {K : Option Value → zHP → Prop} (hp2 : zIsP p2) : zWP (d + 1) 22 0 [some (.ref 1), some (.int i1), some (.ref p2), none] [] (ia, la, zRA pl dr cp cw rp) K = zWM d 20 [.ref p2] (ia, la, zRA pl dr cp cw (some p2)) (zK (d + 1) 22 12 [some (.ref 1), some (.int i1), some (.ref p2), none] [] K) := by
  refine (Q_aload_n zm_22 (Or.inl (by decide)) D22_0 rfl).trans ?_
  refine (Q_aload_n zm_22 (Or.inl (by decide)) D22_1 rfl).trans ?_
  refine (Q_putR zm_22 (Or.inl (by decide)) D22_2 zf_4_26 zs_4_1 rfl zk_1.1).trans ?_
  refine (congrArg (fun q => zWP (d + 1) 22 5 [some (.ref 1), some (.int i1), some (.ref p2), none] [] (ia, la, q) K) (zRA_rp p2)).trans ?_
  refine (Q_aload_n zm_22 (Or.inl (by decide)) D22_5 rfl).trans ?_
  refine (Q_getR (q := p2) zm_22 (Or.inl (by decide)) D22_6 zf_4_26 zs_4_1 zk_1.1 rfl).trans ?_
  exact Q_callv (as := []) (b := p2) (rest := []) zm_22 (Or.inl (by decide)) D22_9 zc_4_30 rfl (zkp_0 hp2).1 (by decide) (by decide +kernel) (by decide) (by simp [zcat, Value.category]) zm_20 rfl

theorem b22_12 {d : Nat} {i1 : Int32} {p2 : Nat} {ia : Nat → Nat → Int32} {la : Nat → Nat → Int64} {pl dr : Nat} {cp : Option Nat} {cw : Option Nat} {rp : Nat} {K : Option Value → zHP → Prop} (hp2 : zIsP p2) : zWP (d + 1) 22 12 [some (.ref 1), some (.int i1), some (.ref p2), none] [] (ia, la, zRA pl dr cp cw (some rp)) K = zWM d 58 [.ref 2, .int i1] ((zu (zu (zu (zu ia 1 2 (0 : Int32)) 1 8 (0 : Int32)) 1 3 (0 : Int32)) 1 4 (-1 : Int32)), la, zRA pl dr cp cw (some rp)) (zK (d + 1) 22 40 [some (.ref 1), some (.int i1), some (.ref p2), none] [] K) := by
  refine (Q_aload_n zm_22 (Or.inl (by decide)) D22_12 rfl).trans ?_
  refine (Q_iconst (v := 0) zm_22 (Or.inl (by decide)) D22_13 (by decide)).trans ?_
  refine (Q_putI zm_22 (Or.inl (by decide)) D22_14 zf_4_35 zs_4_2 rfl zk_1.1).trans ?_
  refine (Q_aload_n zm_22 (Or.inl (by decide)) D22_17 rfl).trans ?_
  refine (Q_iconst (v := 0) zm_22 (Or.inl (by decide)) D22_18 (by decide)).trans ?_
  refine (Q_putI zm_22 (Or.inl (by decide)) D22_19 zf_4_38 zs_4_8 rfl zk_1.1).trans ?_
  refine (Q_aload_n zm_22 (Or.inl (by decide)) D22_22 rfl).trans ?_
  refine (Q_iconst (v := 0) zm_22 (Or.inl (by decide)) D22_23 (by decide)).trans ?_
  refine (Q_putI zm_22 (Or.inl (by decide)) D22_24 zf_4_41 zs_4_3 rfl zk_1.1).trans ?_
  refine (Q_aload_n zm_22 (Or.inl (by decide)) D22_27 rfl).trans ?_
  refine (Q_iconst (v := -1) zm_22 (Or.inl (by decide)) D22_28 (by decide)).trans ?_
  refine (Q_putI zm_22 (Or.inl (by decide)) D22_29 zf_4_18 zs_4_4 rfl zk_1.1).trans ?_
  refine (Q_aload_n zm_22 (Or.inl (by decide)) D22_32 rfl).trans ?_
  refine (Q_getR (q := 2) zm_22 (Or.inl (by decide)) D22_33 zf_4_12 zs_4_0 zk_1.1 rfl).trans ?_
  refine (Q_iload_n zm_22 (Or.inl (by decide)) D22_36 rfl).trans ?_
  exact Q_callv (as := [.int i1]) (b := 2) (rest := []) zm_22 (Or.inl (by decide)) D22_37 zc_4_44 rfl zk_2.1 (by decide) (by decide +kernel) (by decide) (by simp [zcat, Value.category]) zm_58 rfl

theorem b22_40 {d : Nat} {i1 : Int32} {p2 : Nat} {ia : Nat → Nat → Int32} {la : Nat → Nat → Int64} {pl dr : Nat} {cp : Option Nat} {cw : Option Nat} {rp : Nat} {K : Option Value → zHP → Prop} (hp2 : zIsP p2) : zWP d 22 40 [some (.ref 1), some (.int i1), some (.ref p2), none] [] (ia, la, zRA pl dr cp cw (some rp)) K = zWP d 22 42 [some (.ref 1), some (.int i1), some (.ref p2), some (.int (0 : Int32))] [] (ia, la, zRA pl dr cp cw (some rp)) K := by
  refine (Q_iconst (v := 0) zm_22 (Or.inl (by decide)) D22_40 (by decide)).trans ?_
  refine (Q_istore_n (ls' := [some (.ref 1), some (.int i1), some (.ref p2), some (.int (0 : Int32))]) zm_22 (Or.inl (by decide)) D22_41 rfl (Nat.le_of_ble_eq_true rfl) rfl).trans ?_
  rfl

theorem b22_42 {d : Nat} {i1 : Int32} {p2 : Nat} {i3 : Int32} {ia : Nat → Nat → Int32} {la : Nat → Nat → Int64} {pl dr : Nat} {cp : Option Nat} {cw : Option Nat} {rp : Nat} {K : Option Value → zHP → Prop} (hp2 : zIsP p2) : zWP (d + 1) 22 42 [some (.ref 1), some (.int i1), some (.ref p2), some (.int i3)] [] (ia, la, zRA pl dr cp cw (some rp)) K = (if (700 : Int32) ≤ i3 then K none (ia, la, zRA pl dr cp cw (some rp)) else (if ¬ (ia 1 3) = 0 then K none (ia, la, zRA pl dr cp cw (some rp)) else (if (ia 2 5) = 0 then K none (ia, la, zRA pl dr cp cw (some rp)) else (if (ia 2 5) = 20 then zWM d 28 [.ref 1] (ia, la, zRA pl dr cp cw (some rp)) (zK (d + 1) 22 120 [some (.ref 1), some (.int i1), some (.ref p2), some (.int i3)] [] K) else (if (ia 2 5) = 21 then zWM d 29 [.ref 1] (ia, la, zRA pl dr cp cw (some rp)) (zK (d + 1) 22 127 [some (.ref 1), some (.int i1), some (.ref p2), some (.int i3)] [] K) else (if (ia 2 5) = 22 then zWM d 30 [.ref 1] (ia, la, zRA pl dr cp cw (some rp)) (zK (d + 1) 22 134 [some (.ref 1), some (.int i1), some (.ref p2), some (.int i3)] [] K) else (if (ia 2 5) = 23 then zWM d 31 [.ref 1] (ia, la, zRA pl dr cp cw (some rp)) (zK (d + 1) 22 148 [some (.ref 1), some (.int i1), some (.ref p2), some (.int i3)] [] K) else (if (ia 2 5) = 24 then zWM d 31 [.ref 1] (ia, la, zRA pl dr cp cw (some rp)) (zK (d + 1) 22 148 [some (.ref 1), some (.int i1), some (.ref p2), some (.int i3)] [] K) else (if (ia 2 5) = 25 then zWM d 31 [.ref 1] (ia, la, zRA pl dr cp cw (some rp)) (zK (d + 1) 22 148 [some (.ref 1), some (.int i1), some (.ref p2), some (.int i3)] [] K) else (if (ia 2 5) = 26 then zWM d 33 [.ref 1] (ia, la, zRA pl dr cp cw (some rp)) (zK (d + 1) 22 141 [some (.ref 1), some (.int i1), some (.ref p2), some (.int i3)] [] K) else zWM d 31 [.ref 1] (ia, la, zRA pl dr cp cw (some rp)) (zK (d + 1) 22 148 [some (.ref 1), some (.int i1), some (.ref p2), some (.int i3)] [] K))))))))))) := by
  refine (Q_iload_n zm_22 (Or.inl (by decide)) D22_42 rfl).trans ?_
  refine (Q_sipush (v := 700) zm_22 (Or.inl (by decide)) D22_43 (by decide)).trans ?_
  refine (Q_ic_ge (tgt := 172) zm_22 (Or.inl (by decide)) D22_46 (by decide)).trans ?_
  refine zif_c (fun h0_ => ?_) (fun h0_ => ?_)
  · exact Q_return zm_22 (Or.inl (by decide)) D22_172 rfl
  · refine (Q_aload_n zm_22 (Or.inl (by decide)) D22_49 rfl).trans ?_
    refine (Q_getI zm_22 (Or.inl (by decide)) D22_50 zf_4_41 (Or.inl zs_4_3) zk_1.1).trans ?_
    refine (Q_if_ne (tgt := 172) zm_22 (Or.inl (by decide)) D22_53 (by decide)).trans ?_
    refine zif_c (fun h1_ => ?_) (fun h1_ => ?_)
    · exact Q_return zm_22 (Or.inl (by decide)) D22_172 rfl
    · refine (Q_aload_n zm_22 (Or.inl (by decide)) D22_56 rfl).trans ?_
      refine (Q_getR (q := 2) zm_22 (Or.inl (by decide)) D22_57 zf_4_12 zs_4_0 zk_1.1 rfl).trans ?_
      refine (Q_getI zm_22 (Or.inl (by decide)) D22_60 zf_4_48 (Or.inl zs_7_5) zk_2.1).trans ?_
      refine (Q_if_eq (tgt := 172) zm_22 (Or.inl (by decide)) D22_63 (by decide)).trans ?_
      refine zif_c (fun h2_ => ?_) (fun h2_ => ?_)
      · exact Q_return zm_22 (Or.inl (by decide)) D22_172 rfl
      · refine (Q_aload_n zm_22 (Or.inl (by decide)) D22_66 rfl).trans ?_
        refine (Q_getR (q := 2) zm_22 (Or.inl (by decide)) D22_67 zf_4_12 zs_4_0 zk_1.1 rfl).trans ?_
        refine (Q_getI zm_22 (Or.inl (by decide)) D22_70 zf_4_48 (Or.inl zs_7_5) zk_2.1).trans ?_
        by_cases h3_ : (ia 2 5) = 20
        · rw [if_pos h3_]
          refine (congrArg (fun q => zWP (d + 1) 22 73 [some (.ref 1), some (.int i1), some (.ref p2), some (.int i3)] (.int q :: []) (ia, la, zRA pl dr cp cw (some rp)) K) h3_).trans ?_
          refine (Q_tsw (tgt := 116) zm_22 (Or.inl (by decide)) D22_73 rfl (by decide)).trans ?_
          refine (Q_aload_n zm_22 (Or.inl (by decide)) D22_116 rfl).trans ?_
          exact Q_callv (as := []) (b := 1) (rest := []) zm_22 (Or.inl (by decide)) D22_117 zc_4_51 rfl zk_1.1 (by decide) (by decide +kernel) (by decide) (by simp [zcat, Value.category]) zm_28 rfl
        rw [if_neg h3_]
        by_cases h4_ : (ia 2 5) = 21
        · rw [if_pos h4_]
          refine (congrArg (fun q => zWP (d + 1) 22 73 [some (.ref 1), some (.int i1), some (.ref p2), some (.int i3)] (.int q :: []) (ia, la, zRA pl dr cp cw (some rp)) K) h4_).trans ?_
          refine (Q_tsw (tgt := 123) zm_22 (Or.inl (by decide)) D22_73 rfl (by decide)).trans ?_
          refine (Q_aload_n zm_22 (Or.inl (by decide)) D22_123 rfl).trans ?_
          exact Q_callv (as := []) (b := 1) (rest := []) zm_22 (Or.inl (by decide)) D22_124 zc_4_54 rfl zk_1.1 (by decide) (by decide +kernel) (by decide) (by simp [zcat, Value.category]) zm_29 rfl
        rw [if_neg h4_]
        by_cases h5_ : (ia 2 5) = 22
        · rw [if_pos h5_]
          refine (congrArg (fun q => zWP (d + 1) 22 73 [some (.ref 1), some (.int i1), some (.ref p2), some (.int i3)] (.int q :: []) (ia, la, zRA pl dr cp cw (some rp)) K) h5_).trans ?_
          refine (Q_tsw (tgt := 130) zm_22 (Or.inl (by decide)) D22_73 rfl (by decide)).trans ?_
          refine (Q_aload_n zm_22 (Or.inl (by decide)) D22_130 rfl).trans ?_
          exact Q_callv (as := []) (b := 1) (rest := []) zm_22 (Or.inl (by decide)) D22_131 zc_4_57 rfl zk_1.1 (by decide) (by decide +kernel) (by decide) (by simp [zcat, Value.category]) zm_30 rfl
        rw [if_neg h5_]
        by_cases h6_ : (ia 2 5) = 23
        · rw [if_pos h6_]
          refine (congrArg (fun q => zWP (d + 1) 22 73 [some (.ref 1), some (.int i1), some (.ref p2), some (.int i3)] (.int q :: []) (ia, la, zRA pl dr cp cw (some rp)) K) h6_).trans ?_
          refine (Q_tsw (tgt := 144) zm_22 (Or.inl (by decide)) D22_73 rfl (by decide)).trans ?_
          refine (Q_aload_n zm_22 (Or.inl (by decide)) D22_144 rfl).trans ?_
          exact Q_callv (as := []) (b := 1) (rest := []) zm_22 (Or.inl (by decide)) D22_145 zc_4_63 rfl zk_1.1 (by decide) (by decide +kernel) (by decide) (by simp [zcat, Value.category]) zm_31 rfl
        rw [if_neg h6_]
        by_cases h7_ : (ia 2 5) = 24
        · rw [if_pos h7_]
          refine (congrArg (fun q => zWP (d + 1) 22 73 [some (.ref 1), some (.int i1), some (.ref p2), some (.int i3)] (.int q :: []) (ia, la, zRA pl dr cp cw (some rp)) K) h7_).trans ?_
          refine (Q_tsw (tgt := 144) zm_22 (Or.inl (by decide)) D22_73 rfl (by decide)).trans ?_
          refine (Q_aload_n zm_22 (Or.inl (by decide)) D22_144 rfl).trans ?_
          exact Q_callv (as := []) (b := 1) (rest := []) zm_22 (Or.inl (by decide)) D22_145 zc_4_63 rfl zk_1.1 (by decide) (by decide +kernel) (by decide) (by simp [zcat, Value.category]) zm_31 rfl
        rw [if_neg h7_]
        by_cases h8_ : (ia 2 5) = 25
        · rw [if_pos h8_]
          refine (congrArg (fun q => zWP (d + 1) 22 73 [some (.ref 1), some (.int i1), some (.ref p2), some (.int i3)] (.int q :: []) (ia, la, zRA pl dr cp cw (some rp)) K) h8_).trans ?_
          refine (Q_tsw (tgt := 144) zm_22 (Or.inl (by decide)) D22_73 rfl (by decide)).trans ?_
          refine (Q_aload_n zm_22 (Or.inl (by decide)) D22_144 rfl).trans ?_
          exact Q_callv (as := []) (b := 1) (rest := []) zm_22 (Or.inl (by decide)) D22_145 zc_4_63 rfl zk_1.1 (by decide) (by decide +kernel) (by decide) (by simp [zcat, Value.category]) zm_31 rfl
        rw [if_neg h8_]
        by_cases h9_ : (ia 2 5) = 26
        · rw [if_pos h9_]
          refine (congrArg (fun q => zWP (d + 1) 22 73 [some (.ref 1), some (.int i1), some (.ref p2), some (.int i3)] (.int q :: []) (ia, la, zRA pl dr cp cw (some rp)) K) h9_).trans ?_
          refine (Q_tsw (tgt := 137) zm_22 (Or.inl (by decide)) D22_73 rfl (by decide)).trans ?_
          refine (Q_aload_n zm_22 (Or.inl (by decide)) D22_137 rfl).trans ?_
          exact Q_callv (as := []) (b := 1) (rest := []) zm_22 (Or.inl (by decide)) D22_138 zc_4_60 rfl zk_1.1 (by decide) (by decide +kernel) (by decide) (by simp [zcat, Value.category]) zm_33 rfl
        rw [if_neg h9_]
        refine (Q_tsw (tgt := 144) zm_22 (Or.inl (by decide)) D22_73 (zsw_out (n := 7) (by decide) (fun q hq => ?_)) (by decide)).trans ?_
        · rcases (show q = 0 ∨ q = 1 ∨ q = 2 ∨ q = 3 ∨ q = 4 ∨ q = 5 ∨ q = 6 by omega) with rfl | rfl | rfl | rfl | rfl | rfl | rfl
          · exact h3_
          · exact h4_
          · exact h5_
          · exact h6_
          · exact h7_
          · exact h8_
          · exact h9_
        refine (Q_aload_n zm_22 (Or.inl (by decide)) D22_144 rfl).trans ?_
        exact Q_callv (as := []) (b := 1) (rest := []) zm_22 (Or.inl (by decide)) D22_145 zc_4_63 rfl zk_1.1 (by decide) (by decide +kernel) (by decide) (by simp [zcat, Value.category]) zm_31 rfl

theorem b22_120 {d : Nat} {i1 : Int32} {p2 : Nat} {i3 : Int32} {ia : Nat → Nat → Int32} {la : Nat → Nat → Int64} {pl dr : Nat} {cp : Option Nat} {cw : Option Nat} {rp : Nat} {K : Option Value → zHP → Prop} (hp2 : zIsP p2) : zWP (d + 1) 22 120 [some (.ref 1), some (.int i1), some (.ref p2), some (.int i3)] [] (ia, la, zRA pl dr cp cw (some rp)) K = zWM d 24 [.ref 1, .int (4 : Int32)] (ia, la, zRA pl dr cp cw (some rp)) (zK (d + 1) 22 153 [some (.ref 1), some (.int i1), some (.ref p2), some (.int i3)] [] K) := by
  refine (Q_goto (tgt := 148) zm_22 (Or.inl (by decide)) D22_120 (by decide)).trans ?_
  refine (Q_aload_n zm_22 (Or.inl (by decide)) D22_148 rfl).trans ?_
  refine (Q_iconst (v := 4) zm_22 (Or.inl (by decide)) D22_149 (by decide)).trans ?_
  exact Q_callv (as := [.int (4 : Int32)]) (b := 1) (rest := []) zm_22 (Or.inl (by decide)) D22_150 zc_4_66 rfl zk_1.1 (by decide) (by decide +kernel) (by decide) (by simp [zcat, Value.category]) zm_24 rfl

theorem b22_127 {d : Nat} {i1 : Int32} {p2 : Nat} {i3 : Int32} {ia : Nat → Nat → Int32} {la : Nat → Nat → Int64} {pl dr : Nat} {cp : Option Nat} {cw : Option Nat} {rp : Nat} {K : Option Value → zHP → Prop} (hp2 : zIsP p2) : zWP (d + 1) 22 127 [some (.ref 1), some (.int i1), some (.ref p2), some (.int i3)] [] (ia, la, zRA pl dr cp cw (some rp)) K = zWM d 24 [.ref 1, .int (4 : Int32)] (ia, la, zRA pl dr cp cw (some rp)) (zK (d + 1) 22 153 [some (.ref 1), some (.int i1), some (.ref p2), some (.int i3)] [] K) := by
  refine (Q_goto (tgt := 148) zm_22 (Or.inl (by decide)) D22_127 (by decide)).trans ?_
  refine (Q_aload_n zm_22 (Or.inl (by decide)) D22_148 rfl).trans ?_
  refine (Q_iconst (v := 4) zm_22 (Or.inl (by decide)) D22_149 (by decide)).trans ?_
  exact Q_callv (as := [.int (4 : Int32)]) (b := 1) (rest := []) zm_22 (Or.inl (by decide)) D22_150 zc_4_66 rfl zk_1.1 (by decide) (by decide +kernel) (by decide) (by simp [zcat, Value.category]) zm_24 rfl

theorem b22_134 {d : Nat} {i1 : Int32} {p2 : Nat} {i3 : Int32} {ia : Nat → Nat → Int32} {la : Nat → Nat → Int64} {pl dr : Nat} {cp : Option Nat} {cw : Option Nat} {rp : Nat} {K : Option Value → zHP → Prop} (hp2 : zIsP p2) : zWP (d + 1) 22 134 [some (.ref 1), some (.int i1), some (.ref p2), some (.int i3)] [] (ia, la, zRA pl dr cp cw (some rp)) K = zWM d 24 [.ref 1, .int (4 : Int32)] (ia, la, zRA pl dr cp cw (some rp)) (zK (d + 1) 22 153 [some (.ref 1), some (.int i1), some (.ref p2), some (.int i3)] [] K) := by
  refine (Q_goto (tgt := 148) zm_22 (Or.inl (by decide)) D22_134 (by decide)).trans ?_
  refine (Q_aload_n zm_22 (Or.inl (by decide)) D22_148 rfl).trans ?_
  refine (Q_iconst (v := 4) zm_22 (Or.inl (by decide)) D22_149 (by decide)).trans ?_
  exact Q_callv (as := [.int (4 : Int32)]) (b := 1) (rest := []) zm_22 (Or.inl (by decide)) D22_150 zc_4_66 rfl zk_1.1 (by decide) (by decide +kernel) (by decide) (by simp [zcat, Value.category]) zm_24 rfl

theorem b22_148 {d : Nat} {i1 : Int32} {p2 : Nat} {i3 : Int32} {ia : Nat → Nat → Int32} {la : Nat → Nat → Int64} {pl dr : Nat} {cp : Option Nat} {cw : Option Nat} {rp : Nat} {K : Option Value → zHP → Prop} (hp2 : zIsP p2) : zWP (d + 1) 22 148 [some (.ref 1), some (.int i1), some (.ref p2), some (.int i3)] [] (ia, la, zRA pl dr cp cw (some rp)) K = zWM d 24 [.ref 1, .int (4 : Int32)] (ia, la, zRA pl dr cp cw (some rp)) (zK (d + 1) 22 153 [some (.ref 1), some (.int i1), some (.ref p2), some (.int i3)] [] K) := by
  refine (Q_aload_n zm_22 (Or.inl (by decide)) D22_148 rfl).trans ?_
  refine (Q_iconst (v := 4) zm_22 (Or.inl (by decide)) D22_149 (by decide)).trans ?_
  exact Q_callv (as := [.int (4 : Int32)]) (b := 1) (rest := []) zm_22 (Or.inl (by decide)) D22_150 zc_4_66 rfl zk_1.1 (by decide) (by decide +kernel) (by decide) (by simp [zcat, Value.category]) zm_24 rfl

theorem b22_141 {d : Nat} {i1 : Int32} {p2 : Nat} {i3 : Int32} {ia : Nat → Nat → Int32} {la : Nat → Nat → Int64} {pl dr : Nat} {cp : Option Nat} {cw : Option Nat} {rp : Nat} {K : Option Value → zHP → Prop} (hp2 : zIsP p2) : zWP (d + 1) 22 141 [some (.ref 1), some (.int i1), some (.ref p2), some (.int i3)] [] (ia, la, zRA pl dr cp cw (some rp)) K = zWM d 24 [.ref 1, .int (4 : Int32)] (ia, la, zRA pl dr cp cw (some rp)) (zK (d + 1) 22 153 [some (.ref 1), some (.int i1), some (.ref p2), some (.int i3)] [] K) := by
  refine (Q_goto (tgt := 148) zm_22 (Or.inl (by decide)) D22_141 (by decide)).trans ?_
  refine (Q_aload_n zm_22 (Or.inl (by decide)) D22_148 rfl).trans ?_
  refine (Q_iconst (v := 4) zm_22 (Or.inl (by decide)) D22_149 (by decide)).trans ?_
  exact Q_callv (as := [.int (4 : Int32)]) (b := 1) (rest := []) zm_22 (Or.inl (by decide)) D22_150 zc_4_66 rfl zk_1.1 (by decide) (by decide +kernel) (by decide) (by simp [zcat, Value.category]) zm_24 rfl

theorem b22_153 {d : Nat} {i1 : Int32} {p2 : Nat} {i3 : Int32} {ia : Nat → Nat → Int32} {la : Nat → Nat → Int64} {pl dr : Nat} {cp : Option Nat} {cw : Option Nat} {rp : Nat} {K : Option Value → zHP → Prop} (hp2 : zIsP p2) (hrp : zIsP rp) : zWP d 22 153 [some (.ref 1), some (.int i1), some (.ref p2), some (.int i3)] [] (ia, la, zRA pl dr cp cw (some rp)) K = zWP d 22 42 [some (.ref 1), some (.int i1), some (.ref p2), some (.int (i3 + (1 : Int32)))] [] ((zu ia rp 0 ((ia rp 0) + (1 : Int32))), la, zRA pl dr cp cw (some rp)) K := by
  refine (Q_aload_n zm_22 (Or.inl (by decide)) D22_153 rfl).trans ?_
  refine (Q_getR (q := rp) zm_22 (Or.inl (by decide)) D22_154 zf_4_26 zs_4_1 zk_1.1 rfl).trans ?_
  refine (Q_dup zm_22 (Or.inl (by decide)) D22_157 rfl).trans ?_
  refine (Q_getI zm_22 (Or.inl (by decide)) D22_158 zf_4_69 (Or.inl zs_3_0) (zkp_0 hrp).1).trans ?_
  refine (Q_iconst (v := 1) zm_22 (Or.inl (by decide)) D22_161 (by decide)).trans ?_
  refine (Q_iadd zm_22 (Or.inl (by decide)) D22_162).trans ?_
  refine (Q_putI zm_22 (Or.inl (by decide)) D22_163 zf_4_69 zs_3_0 rfl (zkp_0 hrp).1).trans ?_
  refine (Q_iinc (v := 1) (ls' := [some (.ref 1), some (.int i1), some (.ref p2), some (.int (i3 + (1 : Int32)))]) zm_22 (Or.inl (by decide)) D22_166 rfl rfl (by decide) rfl).trans ?_
  refine (Q_goto (tgt := 42) zm_22 (Or.inl (by decide)) D22_169 (by decide)).trans ?_
  rfl

/-! HandsLet$Reader.fail(I)V -/
theorem D23_0 : decode prog_6_method_3_code 0 = .ok (.aload_n 0, 1) := by decide +kernel
theorem D23_1 : decode prog_6_method_3_code 1 = .ok (.getfield 41, 3) := by decide +kernel
theorem D23_4 : decode prog_6_method_3_code 4 = .ok (.ifCond .ne 19, 3) := by decide +kernel
theorem D23_7 : decode prog_6_method_3_code 7 = .ok (.aload_n 0, 1) := by decide +kernel
theorem D23_8 : decode prog_6_method_3_code 8 = .ok (.iload_n 1, 1) := by decide +kernel
theorem D23_9 : decode prog_6_method_3_code 9 = .ok (.putfield 41, 3) := by decide +kernel
theorem D23_12 : decode prog_6_method_3_code 12 = .ok (.aload_n 0, 1) := by decide +kernel
theorem D23_13 : decode prog_6_method_3_code 13 = .ok (.aload_n 0, 1) := by decide +kernel
theorem D23_14 : decode prog_6_method_3_code 14 = .ok (.getfield 12, 3) := by decide +kernel
theorem D23_17 : decode prog_6_method_3_code 17 = .ok (.getfield 72, 3) := by decide +kernel
theorem D23_20 : decode prog_6_method_3_code 20 = .ok (.putfield 18, 3) := by decide +kernel
theorem D23_23 : decode prog_6_method_3_code 23 = .ok (.return_, 1) := by decide +kernel

theorem b23_0 {d : Nat} {i1 : Int32} {ia : Nat → Nat → Int32} {la : Nat → Nat → Int64} {pl dr : Nat} {cp : Option Nat} {cw : Option Nat} {rp : Nat} {K : Option Value → zHP → Prop}  : zWP d 23 0 [some (.ref 1), some (.int i1)] [] (ia, la, zRA pl dr cp cw (some rp)) K = (if ¬ (ia 1 3) = 0 then K none (ia, la, zRA pl dr cp cw (some rp)) else K none ((zu (zu ia 1 3 i1) 1 4 ((zu ia 1 3 i1) 2 6)), la, zRA pl dr cp cw (some rp))) := by
  refine (Q_aload_n zm_23 (Or.inl (by decide)) D23_0 rfl).trans ?_
  refine (Q_getI zm_23 (Or.inl (by decide)) D23_1 zf_4_41 (Or.inl zs_4_3) zk_1.1).trans ?_
  refine (Q_if_ne (tgt := 23) zm_23 (Or.inl (by decide)) D23_4 (by decide)).trans ?_
  refine zif_c (fun h0_ => ?_) (fun h0_ => ?_)
  · exact Q_return zm_23 (Or.inl (by decide)) D23_23 rfl
  · refine (Q_aload_n zm_23 (Or.inl (by decide)) D23_7 rfl).trans ?_
    refine (Q_iload_n zm_23 (Or.inl (by decide)) D23_8 rfl).trans ?_
    refine (Q_putI zm_23 (Or.inl (by decide)) D23_9 zf_4_41 zs_4_3 rfl zk_1.1).trans ?_
    refine (Q_aload_n zm_23 (Or.inl (by decide)) D23_12 rfl).trans ?_
    refine (Q_aload_n zm_23 (Or.inl (by decide)) D23_13 rfl).trans ?_
    refine (Q_getR (q := 2) zm_23 (Or.inl (by decide)) D23_14 zf_4_12 zs_4_0 zk_1.1 rfl).trans ?_
    refine (Q_getI zm_23 (Or.inl (by decide)) D23_17 zf_4_72 (Or.inl zs_7_6) zk_2.1).trans ?_
    refine (Q_putI zm_23 (Or.inl (by decide)) D23_20 zf_4_18 zs_4_4 rfl zk_1.1).trans ?_
    exact Q_return zm_23 (Or.inl (by decide)) D23_23 rfl

/-! HandsLet$Reader.take(I)V -/
theorem D24_0 : decode prog_6_method_4_code 0 = .ok (.aload_n 0, 1) := by decide +kernel
theorem D24_1 : decode prog_6_method_4_code 1 = .ok (.getfield 41, 3) := by decide +kernel
theorem D24_4 : decode prog_6_method_4_code 4 = .ok (.ifCond .ne 24, 3) := by decide +kernel
theorem D24_7 : decode prog_6_method_4_code 7 = .ok (.aload_n 0, 1) := by decide +kernel
theorem D24_8 : decode prog_6_method_4_code 8 = .ok (.getfield 12, 3) := by decide +kernel
theorem D24_11 : decode prog_6_method_4_code 11 = .ok (.getfield 48, 3) := by decide +kernel
theorem D24_14 : decode prog_6_method_4_code 14 = .ok (.iload_n 1, 1) := by decide +kernel
theorem D24_15 : decode prog_6_method_4_code 15 = .ok (.if_icmp .ne 13, 3) := by decide +kernel
theorem D24_18 : decode prog_6_method_4_code 18 = .ok (.aload_n 0, 1) := by decide +kernel
theorem D24_19 : decode prog_6_method_4_code 19 = .ok (.getfield 12, 3) := by decide +kernel
theorem D24_22 : decode prog_6_method_4_code 22 = .ok (.invokevirtual 75, 3) := by decide +kernel
theorem D24_25 : decode prog_6_method_4_code 25 = .ok (.goto 8, 3) := by decide +kernel
theorem D24_28 : decode prog_6_method_4_code 28 = .ok (.aload_n 0, 1) := by decide +kernel
theorem D24_29 : decode prog_6_method_4_code 29 = .ok (.iconst 1, 1) := by decide +kernel
theorem D24_30 : decode prog_6_method_4_code 30 = .ok (.invokevirtual 78, 3) := by decide +kernel
theorem D24_33 : decode prog_6_method_4_code 33 = .ok (.return_, 1) := by decide +kernel

theorem b24_0 {d : Nat} {i1 : Int32} {ia : Nat → Nat → Int32} {la : Nat → Nat → Int64} {pl dr : Nat} {cp : Option Nat} {cw : Option Nat} {rp : Nat} {K : Option Value → zHP → Prop}  : zWP (d + 1) 24 0 [some (.ref 1), some (.int i1)] [] (ia, la, zRA pl dr cp cw (some rp)) K = (if ¬ (ia 1 3) = 0 then zWM d 23 [.ref 1, .int (1 : Int32)] (ia, la, zRA pl dr cp cw (some rp)) (zK (d + 1) 24 33 [some (.ref 1), some (.int i1)] [] K) else (if ¬ (ia 2 5) = i1 then zWM d 23 [.ref 1, .int (1 : Int32)] (ia, la, zRA pl dr cp cw (some rp)) (zK (d + 1) 24 33 [some (.ref 1), some (.int i1)] [] K) else zWM d 59 [.ref 2] (ia, la, zRA pl dr cp cw (some rp)) (zK (d + 1) 24 25 [some (.ref 1), some (.int i1)] [] K))) := by
  refine (Q_aload_n zm_24 (Or.inl (by decide)) D24_0 rfl).trans ?_
  refine (Q_getI zm_24 (Or.inl (by decide)) D24_1 zf_4_41 (Or.inl zs_4_3) zk_1.1).trans ?_
  refine (Q_if_ne (tgt := 28) zm_24 (Or.inl (by decide)) D24_4 (by decide)).trans ?_
  refine zif_c (fun h0_ => ?_) (fun h0_ => ?_)
  · refine (Q_aload_n zm_24 (Or.inl (by decide)) D24_28 rfl).trans ?_
    refine (Q_iconst (v := 1) zm_24 (Or.inl (by decide)) D24_29 (by decide)).trans ?_
    exact Q_callv (as := [.int (1 : Int32)]) (b := 1) (rest := []) zm_24 (Or.inl (by decide)) D24_30 zc_4_78 rfl zk_1.1 (by decide) (by decide +kernel) (by decide) (by simp [zcat, Value.category]) zm_23 rfl
  · refine (Q_aload_n zm_24 (Or.inl (by decide)) D24_7 rfl).trans ?_
    refine (Q_getR (q := 2) zm_24 (Or.inl (by decide)) D24_8 zf_4_12 zs_4_0 zk_1.1 rfl).trans ?_
    refine (Q_getI zm_24 (Or.inl (by decide)) D24_11 zf_4_48 (Or.inl zs_7_5) zk_2.1).trans ?_
    refine (Q_iload_n zm_24 (Or.inl (by decide)) D24_14 rfl).trans ?_
    refine (Q_ic_ne (tgt := 28) zm_24 (Or.inl (by decide)) D24_15 (by decide)).trans ?_
    refine zif_c (fun h1_ => ?_) (fun h1_ => ?_)
    · refine (Q_aload_n zm_24 (Or.inl (by decide)) D24_28 rfl).trans ?_
      refine (Q_iconst (v := 1) zm_24 (Or.inl (by decide)) D24_29 (by decide)).trans ?_
      exact Q_callv (as := [.int (1 : Int32)]) (b := 1) (rest := []) zm_24 (Or.inl (by decide)) D24_30 zc_4_78 rfl zk_1.1 (by decide) (by decide +kernel) (by decide) (by simp [zcat, Value.category]) zm_23 rfl
    · refine (Q_aload_n zm_24 (Or.inl (by decide)) D24_18 rfl).trans ?_
      refine (Q_getR (q := 2) zm_24 (Or.inl (by decide)) D24_19 zf_4_12 zs_4_0 zk_1.1 rfl).trans ?_
      exact Q_callv (as := []) (b := 2) (rest := []) zm_24 (Or.inl (by decide)) D24_22 zc_4_75 rfl zk_2.1 (by decide) (by decide +kernel) (by decide) (by simp [zcat, Value.category]) zm_59 rfl

theorem b24_33 {d : Nat} {i1 : Int32} {ia : Nat → Nat → Int32} {la : Nat → Nat → Int64} {pl dr : Nat} {cp : Option Nat} {cw : Option Nat} {rp : Nat} {K : Option Value → zHP → Prop}  : zWP d 24 33 [some (.ref 1), some (.int i1)] [] (ia, la, zRA pl dr cp cw (some rp)) K = K none (ia, la, zRA pl dr cp cw (some rp)) := by
  exact Q_return zm_24 (Or.inl (by decide)) D24_33 rfl

theorem b24_25 {d : Nat} {i1 : Int32} {ia : Nat → Nat → Int32} {la : Nat → Nat → Int64} {pl dr : Nat} {cp : Option Nat} {cw : Option Nat} {rp : Nat} {K : Option Value → zHP → Prop}  : zWP d 24 25 [some (.ref 1), some (.int i1)] [] (ia, la, zRA pl dr cp cw (some rp)) K = K none (ia, la, zRA pl dr cp cw (some rp)) := by
  refine (Q_goto (tgt := 33) zm_24 (Or.inl (by decide)) D24_25 (by decide)).trans ?_
  exact Q_return zm_24 (Or.inl (by decide)) D24_33 rfl

/-! HandsLet$Reader.takeNumber(II)I -/
theorem D25_0 : decode prog_6_method_5_code 0 = .ok (.aload_n 0, 1) := by decide +kernel
theorem D25_1 : decode prog_6_method_5_code 1 = .ok (.getfield 12, 3) := by decide +kernel
theorem D25_4 : decode prog_6_method_5_code 4 = .ok (.getfield 81, 3) := by decide +kernel
theorem D25_7 : decode prog_6_method_5_code 7 = .ok (.istore_n 3, 1) := by decide +kernel
theorem D25_8 : decode prog_6_method_5_code 8 = .ok (.aload_n 0, 1) := by decide +kernel
theorem D25_9 : decode prog_6_method_5_code 9 = .ok (.getfield 12, 3) := by decide +kernel
theorem D25_12 : decode prog_6_method_5_code 12 = .ok (.getfield 48, 3) := by decide +kernel
theorem D25_15 : decode prog_6_method_5_code 15 = .ok (.iconst 2, 1) := by decide +kernel
theorem D25_16 : decode prog_6_method_5_code 16 = .ok (.if_icmp .ne 18, 3) := by decide +kernel
theorem D25_19 : decode prog_6_method_5_code 19 = .ok (.iload_n 3, 1) := by decide +kernel
theorem D25_20 : decode prog_6_method_5_code 20 = .ok (.iload_n 1, 1) := by decide +kernel
theorem D25_21 : decode prog_6_method_5_code 21 = .ok (.if_icmp .lt 8, 3) := by decide +kernel
theorem D25_24 : decode prog_6_method_5_code 24 = .ok (.iload_n 3, 1) := by decide +kernel
theorem D25_25 : decode prog_6_method_5_code 25 = .ok (.iload_n 2, 1) := by decide +kernel
theorem D25_26 : decode prog_6_method_5_code 26 = .ok (.if_icmp .le 8, 3) := by decide +kernel
theorem D25_29 : decode prog_6_method_5_code 29 = .ok (.aload_n 0, 1) := by decide +kernel
theorem D25_30 : decode prog_6_method_5_code 30 = .ok (.iconst 2, 1) := by decide +kernel
theorem D25_31 : decode prog_6_method_5_code 31 = .ok (.invokevirtual 78, 3) := by decide +kernel
theorem D25_34 : decode prog_6_method_5_code 34 = .ok (.aload_n 0, 1) := by decide +kernel
theorem D25_35 : decode prog_6_method_5_code 35 = .ok (.iconst 2, 1) := by decide +kernel
theorem D25_36 : decode prog_6_method_5_code 36 = .ok (.invokevirtual 66, 3) := by decide +kernel
theorem D25_39 : decode prog_6_method_5_code 39 = .ok (.iload_n 3, 1) := by decide +kernel
theorem D25_40 : decode prog_6_method_5_code 40 = .ok (.ireturn, 1) := by decide +kernel

theorem b25_0 {d : Nat} {i1 : Int32} {i2 : Int32} {ia : Nat → Nat → Int32} {la : Nat → Nat → Int64} {pl dr : Nat} {cp : Option Nat} {cw : Option Nat} {rp : Nat} {K : Option Value → zHP → Prop}  : zWP (d + 1) 25 0 [some (.ref 1), some (.int i1), some (.int i2), none] [] (ia, la, zRA pl dr cp cw (some rp)) K = (if ¬ (ia 2 5) = (2 : Int32) then zWM d 24 [.ref 1, .int (2 : Int32)] (ia, la, zRA pl dr cp cw (some rp)) (zK (d + 1) 25 39 [some (.ref 1), some (.int i1), some (.int i2), some (.int (ia 2 7))] [] K) else (if (ia 2 7) < i1 then zWM d 23 [.ref 1, .int (2 : Int32)] (ia, la, zRA pl dr cp cw (some rp)) (zK (d + 1) 25 34 [some (.ref 1), some (.int i1), some (.int i2), some (.int (ia 2 7))] [] K) else (if (ia 2 7) ≤ i2 then zWM d 24 [.ref 1, .int (2 : Int32)] (ia, la, zRA pl dr cp cw (some rp)) (zK (d + 1) 25 39 [some (.ref 1), some (.int i1), some (.int i2), some (.int (ia 2 7))] [] K) else zWM d 23 [.ref 1, .int (2 : Int32)] (ia, la, zRA pl dr cp cw (some rp)) (zK (d + 1) 25 34 [some (.ref 1), some (.int i1), some (.int i2), some (.int (ia 2 7))] [] K)))) := by
  refine (Q_aload_n zm_25 (Or.inl (by decide)) D25_0 rfl).trans ?_
  refine (Q_getR (q := 2) zm_25 (Or.inl (by decide)) D25_1 zf_4_12 zs_4_0 zk_1.1 rfl).trans ?_
  refine (Q_getI zm_25 (Or.inl (by decide)) D25_4 zf_4_81 (Or.inl zs_7_7) zk_2.1).trans ?_
  refine (Q_istore_n (ls' := [some (.ref 1), some (.int i1), some (.int i2), some (.int (ia 2 7))]) zm_25 (Or.inl (by decide)) D25_7 rfl (Nat.le_of_ble_eq_true rfl) rfl).trans ?_
  refine (Q_aload_n zm_25 (Or.inl (by decide)) D25_8 rfl).trans ?_
  refine (Q_getR (q := 2) zm_25 (Or.inl (by decide)) D25_9 zf_4_12 zs_4_0 zk_1.1 rfl).trans ?_
  refine (Q_getI zm_25 (Or.inl (by decide)) D25_12 zf_4_48 (Or.inl zs_7_5) zk_2.1).trans ?_
  refine (Q_iconst (v := 2) zm_25 (Or.inl (by decide)) D25_15 (by decide)).trans ?_
  refine (Q_ic_ne (tgt := 34) zm_25 (Or.inl (by decide)) D25_16 (by decide)).trans ?_
  refine zif_c (fun h0_ => ?_) (fun h0_ => ?_)
  · refine (Q_aload_n zm_25 (Or.inl (by decide)) D25_34 rfl).trans ?_
    refine (Q_iconst (v := 2) zm_25 (Or.inl (by decide)) D25_35 (by decide)).trans ?_
    exact Q_callv (as := [.int (2 : Int32)]) (b := 1) (rest := []) zm_25 (Or.inl (by decide)) D25_36 zc_4_66 rfl zk_1.1 (by decide) (by decide +kernel) (by decide) (by simp [zcat, Value.category]) zm_24 rfl
  · refine (Q_iload_n zm_25 (Or.inl (by decide)) D25_19 rfl).trans ?_
    refine (Q_iload_n zm_25 (Or.inl (by decide)) D25_20 rfl).trans ?_
    refine (Q_ic_lt (tgt := 29) zm_25 (Or.inl (by decide)) D25_21 (by decide)).trans ?_
    refine zif_c (fun h1_ => ?_) (fun h1_ => ?_)
    · refine (Q_aload_n zm_25 (Or.inl (by decide)) D25_29 rfl).trans ?_
      refine (Q_iconst (v := 2) zm_25 (Or.inl (by decide)) D25_30 (by decide)).trans ?_
      exact Q_callv (as := [.int (2 : Int32)]) (b := 1) (rest := []) zm_25 (Or.inl (by decide)) D25_31 zc_4_78 rfl zk_1.1 (by decide) (by decide +kernel) (by decide) (by simp [zcat, Value.category]) zm_23 rfl
    · refine (Q_iload_n zm_25 (Or.inl (by decide)) D25_24 rfl).trans ?_
      refine (Q_iload_n zm_25 (Or.inl (by decide)) D25_25 rfl).trans ?_
      refine (Q_ic_le (tgt := 34) zm_25 (Or.inl (by decide)) D25_26 (by decide)).trans ?_
      refine zif_c (fun h2_ => ?_) (fun h2_ => ?_)
      · refine (Q_aload_n zm_25 (Or.inl (by decide)) D25_34 rfl).trans ?_
        refine (Q_iconst (v := 2) zm_25 (Or.inl (by decide)) D25_35 (by decide)).trans ?_
        exact Q_callv (as := [.int (2 : Int32)]) (b := 1) (rest := []) zm_25 (Or.inl (by decide)) D25_36 zc_4_66 rfl zk_1.1 (by decide) (by decide +kernel) (by decide) (by simp [zcat, Value.category]) zm_24 rfl
      · refine (Q_aload_n zm_25 (Or.inl (by decide)) D25_29 rfl).trans ?_
        refine (Q_iconst (v := 2) zm_25 (Or.inl (by decide)) D25_30 (by decide)).trans ?_
        exact Q_callv (as := [.int (2 : Int32)]) (b := 1) (rest := []) zm_25 (Or.inl (by decide)) D25_31 zc_4_78 rfl zk_1.1 (by decide) (by decide +kernel) (by decide) (by simp [zcat, Value.category]) zm_23 rfl

theorem b25_39 {d : Nat} {i1 : Int32} {i2 : Int32} {i3 : Int32} {ia : Nat → Nat → Int32} {la : Nat → Nat → Int64} {pl dr : Nat} {cp : Option Nat} {cw : Option Nat} {rp : Nat} {K : Option Value → zHP → Prop}  : zWP d 25 39 [some (.ref 1), some (.int i1), some (.int i2), some (.int i3)] [] (ia, la, zRA pl dr cp cw (some rp)) K = K (some (.int i3)) (ia, la, zRA pl dr cp cw (some rp)) := by
  refine (Q_iload_n zm_25 (Or.inl (by decide)) D25_39 rfl).trans ?_
  exact Q_ireturn zm_25 (Or.inl (by decide)) D25_40 rfl

theorem b25_34 {d : Nat} {i1 : Int32} {i2 : Int32} {i3 : Int32} {ia : Nat → Nat → Int32} {la : Nat → Nat → Int64} {pl dr : Nat} {cp : Option Nat} {cw : Option Nat} {rp : Nat} {K : Option Value → zHP → Prop}  : zWP (d + 1) 25 34 [some (.ref 1), some (.int i1), some (.int i2), some (.int i3)] [] (ia, la, zRA pl dr cp cw (some rp)) K = zWM d 24 [.ref 1, .int (2 : Int32)] (ia, la, zRA pl dr cp cw (some rp)) (zK (d + 1) 25 39 [some (.ref 1), some (.int i1), some (.int i2), some (.int i3)] [] K) := by
  refine (Q_aload_n zm_25 (Or.inl (by decide)) D25_34 rfl).trans ?_
  refine (Q_iconst (v := 2) zm_25 (Or.inl (by decide)) D25_35 (by decide)).trans ?_
  exact Q_callv (as := [.int (2 : Int32)]) (b := 1) (rest := []) zm_25 (Or.inl (by decide)) D25_36 zc_4_66 rfl zk_1.1 (by decide) (by decide +kernel) (by decide) (by simp [zcat, Value.category]) zm_24 rfl

/-! HandsLet$Reader.takeNewName()I -/
theorem D26_0 : decode prog_6_method_6_code 0 = .ok (.aload_n 0, 1) := by decide +kernel
theorem D26_1 : decode prog_6_method_6_code 1 = .ok (.getfield 12, 3) := by decide +kernel
theorem D26_4 : decode prog_6_method_6_code 4 = .ok (.getfield 81, 3) := by decide +kernel
theorem D26_7 : decode prog_6_method_6_code 7 = .ok (.istore_n 1, 1) := by decide +kernel
theorem D26_8 : decode prog_6_method_6_code 8 = .ok (.aload_n 0, 1) := by decide +kernel
theorem D26_9 : decode prog_6_method_6_code 9 = .ok (.getfield 12, 3) := by decide +kernel
theorem D26_12 : decode prog_6_method_6_code 12 = .ok (.getfield 48, 3) := by decide +kernel
theorem D26_15 : decode prog_6_method_6_code 15 = .ok (.iconst 3, 1) := by decide +kernel
theorem D26_16 : decode prog_6_method_6_code 16 = .ok (.if_icmp .ne 20, 3) := by decide +kernel
theorem D26_19 : decode prog_6_method_6_code 19 = .ok (.aload_n 0, 1) := by decide +kernel
theorem D26_20 : decode prog_6_method_6_code 20 = .ok (.getfield 26, 3) := by decide +kernel
theorem D26_23 : decode prog_6_method_6_code 23 = .ok (.iload_n 1, 1) := by decide +kernel
theorem D26_24 : decode prog_6_method_6_code 24 = .ok (.invokevirtual 84, 3) := by decide +kernel
theorem D26_27 : decode prog_6_method_6_code 27 = .ok (.iconst (-1), 1) := by decide +kernel
theorem D26_28 : decode prog_6_method_6_code 28 = .ok (.if_icmp .eq 8, 3) := by decide +kernel
theorem D26_31 : decode prog_6_method_6_code 31 = .ok (.aload_n 0, 1) := by decide +kernel
theorem D26_32 : decode prog_6_method_6_code 32 = .ok (.iconst 3, 1) := by decide +kernel
theorem D26_33 : decode prog_6_method_6_code 33 = .ok (.invokevirtual 78, 3) := by decide +kernel
theorem D26_36 : decode prog_6_method_6_code 36 = .ok (.aload_n 0, 1) := by decide +kernel
theorem D26_37 : decode prog_6_method_6_code 37 = .ok (.iconst 3, 1) := by decide +kernel
theorem D26_38 : decode prog_6_method_6_code 38 = .ok (.invokevirtual 66, 3) := by decide +kernel
theorem D26_41 : decode prog_6_method_6_code 41 = .ok (.iload_n 1, 1) := by decide +kernel
theorem D26_42 : decode prog_6_method_6_code 42 = .ok (.ireturn, 1) := by decide +kernel

theorem b26_0 {d : Nat}  {ia : Nat → Nat → Int32} {la : Nat → Nat → Int64} {pl dr : Nat} {cp : Option Nat} {cw : Option Nat} {rp : Nat} {K : Option Value → zHP → Prop} (hrp : zIsP rp) : zWP (d + 1) 26 0 [some (.ref 1), none] [] (ia, la, zRA pl dr cp cw (some rp)) K = (if ¬ (ia 2 5) = (3 : Int32) then zWM d 24 [.ref 1, .int (3 : Int32)] (ia, la, zRA pl dr cp cw (some rp)) (zK (d + 1) 26 41 [some (.ref 1), some (.int (ia 2 7))] [] K) else zWM d 21 [.ref rp, .int (ia 2 7)] (ia, la, zRA pl dr cp cw (some rp)) (zK (d + 1) 26 27 [some (.ref 1), some (.int (ia 2 7))] [] K)) := by
  refine (Q_aload_n zm_26 (Or.inl (by decide)) D26_0 rfl).trans ?_
  refine (Q_getR (q := 2) zm_26 (Or.inl (by decide)) D26_1 zf_4_12 zs_4_0 zk_1.1 rfl).trans ?_
  refine (Q_getI zm_26 (Or.inl (by decide)) D26_4 zf_4_81 (Or.inl zs_7_7) zk_2.1).trans ?_
  refine (Q_istore_n (ls' := [some (.ref 1), some (.int (ia 2 7))]) zm_26 (Or.inl (by decide)) D26_7 rfl (Nat.le_of_ble_eq_true rfl) rfl).trans ?_
  refine (Q_aload_n zm_26 (Or.inl (by decide)) D26_8 rfl).trans ?_
  refine (Q_getR (q := 2) zm_26 (Or.inl (by decide)) D26_9 zf_4_12 zs_4_0 zk_1.1 rfl).trans ?_
  refine (Q_getI zm_26 (Or.inl (by decide)) D26_12 zf_4_48 (Or.inl zs_7_5) zk_2.1).trans ?_
  refine (Q_iconst (v := 3) zm_26 (Or.inl (by decide)) D26_15 (by decide)).trans ?_
  refine (Q_ic_ne (tgt := 36) zm_26 (Or.inl (by decide)) D26_16 (by decide)).trans ?_
  refine zif_c (fun h0_ => ?_) (fun h0_ => ?_)
  · refine (Q_aload_n zm_26 (Or.inl (by decide)) D26_36 rfl).trans ?_
    refine (Q_iconst (v := 3) zm_26 (Or.inl (by decide)) D26_37 (by decide)).trans ?_
    exact Q_callv (as := [.int (3 : Int32)]) (b := 1) (rest := []) zm_26 (Or.inl (by decide)) D26_38 zc_4_66 rfl zk_1.1 (by decide) (by decide +kernel) (by decide) (by simp [zcat, Value.category]) zm_24 rfl
  · refine (Q_aload_n zm_26 (Or.inl (by decide)) D26_19 rfl).trans ?_
    refine (Q_getR (q := rp) zm_26 (Or.inl (by decide)) D26_20 zf_4_26 zs_4_1 zk_1.1 rfl).trans ?_
    refine (Q_iload_n zm_26 (Or.inl (by decide)) D26_23 rfl).trans ?_
    exact Q_callv (as := [.int (ia 2 7)]) (b := rp) (rest := []) zm_26 (Or.inl (by decide)) D26_24 zc_4_84 rfl (zkp_0 hrp).1 (by decide) (by decide +kernel) (by decide) (by simp [zcat, Value.category]) zm_21 rfl

theorem b26_41 {d : Nat} {i1 : Int32} {ia : Nat → Nat → Int32} {la : Nat → Nat → Int64} {pl dr : Nat} {cp : Option Nat} {cw : Option Nat} {rp : Nat} {K : Option Value → zHP → Prop}  : zWP d 26 41 [some (.ref 1), some (.int i1)] [] (ia, la, zRA pl dr cp cw (some rp)) K = K (some (.int i1)) (ia, la, zRA pl dr cp cw (some rp)) := by
  refine (Q_iload_n zm_26 (Or.inl (by decide)) D26_41 rfl).trans ?_
  exact Q_ireturn zm_26 (Or.inl (by decide)) D26_42 rfl

theorem b26_27 {d : Nat} {i1 : Int32} {s0 : Int32} {ia : Nat → Nat → Int32} {la : Nat → Nat → Int64} {pl dr : Nat} {cp : Option Nat} {cw : Option Nat} {rp : Nat} {K : Option Value → zHP → Prop}  : zWP (d + 1) 26 27 [some (.ref 1), some (.int i1)] [.int s0] (ia, la, zRA pl dr cp cw (some rp)) K = (if s0 = (-1 : Int32) then zWM d 24 [.ref 1, .int (3 : Int32)] (ia, la, zRA pl dr cp cw (some rp)) (zK (d + 1) 26 41 [some (.ref 1), some (.int i1)] [] K) else zWM d 23 [.ref 1, .int (3 : Int32)] (ia, la, zRA pl dr cp cw (some rp)) (zK (d + 1) 26 36 [some (.ref 1), some (.int i1)] [] K)) := by
  refine (Q_iconst (v := -1) zm_26 (Or.inl (by decide)) D26_27 (by decide)).trans ?_
  refine (Q_ic_eq (tgt := 36) zm_26 (Or.inl (by decide)) D26_28 (by decide)).trans ?_
  refine zif_c (fun h0_ => ?_) (fun h0_ => ?_)
  · refine (Q_aload_n zm_26 (Or.inl (by decide)) D26_36 rfl).trans ?_
    refine (Q_iconst (v := 3) zm_26 (Or.inl (by decide)) D26_37 (by decide)).trans ?_
    exact Q_callv (as := [.int (3 : Int32)]) (b := 1) (rest := []) zm_26 (Or.inl (by decide)) D26_38 zc_4_66 rfl zk_1.1 (by decide) (by decide +kernel) (by decide) (by simp [zcat, Value.category]) zm_24 rfl
  · refine (Q_aload_n zm_26 (Or.inl (by decide)) D26_31 rfl).trans ?_
    refine (Q_iconst (v := 3) zm_26 (Or.inl (by decide)) D26_32 (by decide)).trans ?_
    exact Q_callv (as := [.int (3 : Int32)]) (b := 1) (rest := []) zm_26 (Or.inl (by decide)) D26_33 zc_4_78 rfl zk_1.1 (by decide) (by decide +kernel) (by decide) (by simp [zcat, Value.category]) zm_23 rfl

theorem b26_36 {d : Nat} {i1 : Int32} {ia : Nat → Nat → Int32} {la : Nat → Nat → Int64} {pl dr : Nat} {cp : Option Nat} {cw : Option Nat} {rp : Nat} {K : Option Value → zHP → Prop}  : zWP (d + 1) 26 36 [some (.ref 1), some (.int i1)] [] (ia, la, zRA pl dr cp cw (some rp)) K = zWM d 24 [.ref 1, .int (3 : Int32)] (ia, la, zRA pl dr cp cw (some rp)) (zK (d + 1) 26 41 [some (.ref 1), some (.int i1)] [] K) := by
  refine (Q_aload_n zm_26 (Or.inl (by decide)) D26_36 rfl).trans ?_
  refine (Q_iconst (v := 3) zm_26 (Or.inl (by decide)) D26_37 (by decide)).trans ?_
  exact Q_callv (as := [.int (3 : Int32)]) (b := 1) (rest := []) zm_26 (Or.inl (by decide)) D26_38 zc_4_66 rfl zk_1.1 (by decide) (by decide +kernel) (by decide) (by simp [zcat, Value.category]) zm_24 rfl

/-! HandsLet$Reader.takePerson(I)I -/
theorem D27_0 : decode prog_6_method_7_code 0 = .ok (.aload_n 0, 1) := by decide +kernel
theorem D27_1 : decode prog_6_method_7_code 1 = .ok (.getfield 26, 3) := by decide +kernel
theorem D27_4 : decode prog_6_method_7_code 4 = .ok (.aload_n 0, 1) := by decide +kernel
theorem D27_5 : decode prog_6_method_7_code 5 = .ok (.getfield 12, 3) := by decide +kernel
theorem D27_8 : decode prog_6_method_7_code 8 = .ok (.getfield 81, 3) := by decide +kernel
theorem D27_11 : decode prog_6_method_7_code 11 = .ok (.invokevirtual 84, 3) := by decide +kernel
theorem D27_14 : decode prog_6_method_7_code 14 = .ok (.istore_n 2, 1) := by decide +kernel
theorem D27_15 : decode prog_6_method_7_code 15 = .ok (.aload_n 0, 1) := by decide +kernel
theorem D27_16 : decode prog_6_method_7_code 16 = .ok (.getfield 12, 3) := by decide +kernel
theorem D27_19 : decode prog_6_method_7_code 19 = .ok (.getfield 48, 3) := by decide +kernel
theorem D27_22 : decode prog_6_method_7_code 22 = .ok (.iconst 3, 1) := by decide +kernel
theorem D27_23 : decode prog_6_method_7_code 23 = .ok (.if_icmp .ne 16, 3) := by decide +kernel
theorem D27_26 : decode prog_6_method_7_code 26 = .ok (.iload_n 2, 1) := by decide +kernel
theorem D27_27 : decode prog_6_method_7_code 27 = .ok (.iconst (-1), 1) := by decide +kernel
theorem D27_28 : decode prog_6_method_7_code 28 = .ok (.if_icmp .ne 11, 3) := by decide +kernel
theorem D27_31 : decode prog_6_method_7_code 31 = .ok (.aload_n 0, 1) := by decide +kernel
theorem D27_32 : decode prog_6_method_7_code 32 = .ok (.iconst 4, 1) := by decide +kernel
theorem D27_33 : decode prog_6_method_7_code 33 = .ok (.invokevirtual 78, 3) := by decide +kernel
theorem D27_36 : decode prog_6_method_7_code 36 = .ok (.goto 24, 3) := by decide +kernel
theorem D27_39 : decode prog_6_method_7_code 39 = .ok (.aload_n 0, 1) := by decide +kernel
theorem D27_40 : decode prog_6_method_7_code 40 = .ok (.getfield 12, 3) := by decide +kernel
theorem D27_43 : decode prog_6_method_7_code 43 = .ok (.getfield 48, 3) := by decide +kernel
theorem D27_46 : decode prog_6_method_7_code 46 = .ok (.iconst 3, 1) := by decide +kernel
theorem D27_47 : decode prog_6_method_7_code 47 = .ok (.if_icmp .ne 13, 3) := by decide +kernel
theorem D27_50 : decode prog_6_method_7_code 50 = .ok (.iload_n 2, 1) := by decide +kernel
theorem D27_51 : decode prog_6_method_7_code 51 = .ok (.iload_n 1, 1) := by decide +kernel
theorem D27_52 : decode prog_6_method_7_code 52 = .ok (.if_icmp .ne 8, 3) := by decide +kernel
theorem D27_55 : decode prog_6_method_7_code 55 = .ok (.aload_n 0, 1) := by decide +kernel
theorem D27_56 : decode prog_6_method_7_code 56 = .ok (.iconst 5, 1) := by decide +kernel
theorem D27_57 : decode prog_6_method_7_code 57 = .ok (.invokevirtual 78, 3) := by decide +kernel
theorem D27_60 : decode prog_6_method_7_code 60 = .ok (.aload_n 0, 1) := by decide +kernel
theorem D27_61 : decode prog_6_method_7_code 61 = .ok (.iconst 3, 1) := by decide +kernel
theorem D27_62 : decode prog_6_method_7_code 62 = .ok (.invokevirtual 66, 3) := by decide +kernel
theorem D27_65 : decode prog_6_method_7_code 65 = .ok (.iload_n 2, 1) := by decide +kernel
theorem D27_66 : decode prog_6_method_7_code 66 = .ok (.ireturn, 1) := by decide +kernel

theorem b27_0 {d : Nat} {i1 : Int32} {ia : Nat → Nat → Int32} {la : Nat → Nat → Int64} {pl dr : Nat} {cp : Option Nat} {cw : Option Nat} {rp : Nat} {K : Option Value → zHP → Prop} (hrp : zIsP rp) : zWP (d + 1) 27 0 [some (.ref 1), some (.int i1), none] [] (ia, la, zRA pl dr cp cw (some rp)) K = zWM d 21 [.ref rp, .int (ia 2 7)] (ia, la, zRA pl dr cp cw (some rp)) (zK (d + 1) 27 14 [some (.ref 1), some (.int i1), none] [] K) := by
  refine (Q_aload_n zm_27 (Or.inl (by decide)) D27_0 rfl).trans ?_
  refine (Q_getR (q := rp) zm_27 (Or.inl (by decide)) D27_1 zf_4_26 zs_4_1 zk_1.1 rfl).trans ?_
  refine (Q_aload_n zm_27 (Or.inl (by decide)) D27_4 rfl).trans ?_
  refine (Q_getR (q := 2) zm_27 (Or.inl (by decide)) D27_5 zf_4_12 zs_4_0 zk_1.1 rfl).trans ?_
  refine (Q_getI zm_27 (Or.inl (by decide)) D27_8 zf_4_81 (Or.inl zs_7_7) zk_2.1).trans ?_
  exact Q_callv (as := [.int (ia 2 7)]) (b := rp) (rest := []) zm_27 (Or.inl (by decide)) D27_11 zc_4_84 rfl (zkp_0 hrp).1 (by decide) (by decide +kernel) (by decide) (by simp [zcat, Value.category]) zm_21 rfl

theorem b27_14 {d : Nat} {i1 : Int32} {s0 : Int32} {ia : Nat → Nat → Int32} {la : Nat → Nat → Int64} {pl dr : Nat} {cp : Option Nat} {cw : Option Nat} {rp : Nat} {K : Option Value → zHP → Prop}  : zWP (d + 1) 27 14 [some (.ref 1), some (.int i1), none] [.int s0] (ia, la, zRA pl dr cp cw (some rp)) K = (if ¬ (ia 2 5) = (3 : Int32) then zWP (d + 1) 27 39 [some (.ref 1), some (.int i1), some (.int s0)] [] (ia, la, zRA pl dr cp cw (some rp)) K else (if ¬ s0 = (-1 : Int32) then zWP (d + 1) 27 39 [some (.ref 1), some (.int i1), some (.int s0)] [] (ia, la, zRA pl dr cp cw (some rp)) K else zWM d 23 [.ref 1, .int (4 : Int32)] (ia, la, zRA pl dr cp cw (some rp)) (zK (d + 1) 27 36 [some (.ref 1), some (.int i1), some (.int s0)] [] K))) := by
  refine (Q_istore_n (ls' := [some (.ref 1), some (.int i1), some (.int s0)]) zm_27 (Or.inl (by decide)) D27_14 rfl (Nat.le_of_ble_eq_true rfl) rfl).trans ?_
  refine (Q_aload_n zm_27 (Or.inl (by decide)) D27_15 rfl).trans ?_
  refine (Q_getR (q := 2) zm_27 (Or.inl (by decide)) D27_16 zf_4_12 zs_4_0 zk_1.1 rfl).trans ?_
  refine (Q_getI zm_27 (Or.inl (by decide)) D27_19 zf_4_48 (Or.inl zs_7_5) zk_2.1).trans ?_
  refine (Q_iconst (v := 3) zm_27 (Or.inl (by decide)) D27_22 (by decide)).trans ?_
  refine (Q_ic_ne (tgt := 39) zm_27 (Or.inl (by decide)) D27_23 (by decide)).trans ?_
  refine zif_c (fun h0_ => ?_) (fun h0_ => ?_)
  · rfl
  · refine (Q_iload_n zm_27 (Or.inl (by decide)) D27_26 rfl).trans ?_
    refine (Q_iconst (v := -1) zm_27 (Or.inl (by decide)) D27_27 (by decide)).trans ?_
    refine (Q_ic_ne (tgt := 39) zm_27 (Or.inl (by decide)) D27_28 (by decide)).trans ?_
    refine zif_c (fun h1_ => ?_) (fun h1_ => ?_)
    · rfl
    · refine (Q_aload_n zm_27 (Or.inl (by decide)) D27_31 rfl).trans ?_
      refine (Q_iconst (v := 4) zm_27 (Or.inl (by decide)) D27_32 (by decide)).trans ?_
      exact Q_callv (as := [.int (4 : Int32)]) (b := 1) (rest := []) zm_27 (Or.inl (by decide)) D27_33 zc_4_78 rfl zk_1.1 (by decide) (by decide +kernel) (by decide) (by simp [zcat, Value.category]) zm_23 rfl

theorem b27_39 {d : Nat} {i1 : Int32} {i2 : Int32} {ia : Nat → Nat → Int32} {la : Nat → Nat → Int64} {pl dr : Nat} {cp : Option Nat} {cw : Option Nat} {rp : Nat} {K : Option Value → zHP → Prop}  : zWP (d + 1) 27 39 [some (.ref 1), some (.int i1), some (.int i2)] [] (ia, la, zRA pl dr cp cw (some rp)) K = (if ¬ (ia 2 5) = (3 : Int32) then zWM d 24 [.ref 1, .int (3 : Int32)] (ia, la, zRA pl dr cp cw (some rp)) (zK (d + 1) 27 65 [some (.ref 1), some (.int i1), some (.int i2)] [] K) else (if ¬ i2 = i1 then zWM d 24 [.ref 1, .int (3 : Int32)] (ia, la, zRA pl dr cp cw (some rp)) (zK (d + 1) 27 65 [some (.ref 1), some (.int i1), some (.int i2)] [] K) else zWM d 23 [.ref 1, .int (5 : Int32)] (ia, la, zRA pl dr cp cw (some rp)) (zK (d + 1) 27 60 [some (.ref 1), some (.int i1), some (.int i2)] [] K))) := by
  refine (Q_aload_n zm_27 (Or.inl (by decide)) D27_39 rfl).trans ?_
  refine (Q_getR (q := 2) zm_27 (Or.inl (by decide)) D27_40 zf_4_12 zs_4_0 zk_1.1 rfl).trans ?_
  refine (Q_getI zm_27 (Or.inl (by decide)) D27_43 zf_4_48 (Or.inl zs_7_5) zk_2.1).trans ?_
  refine (Q_iconst (v := 3) zm_27 (Or.inl (by decide)) D27_46 (by decide)).trans ?_
  refine (Q_ic_ne (tgt := 60) zm_27 (Or.inl (by decide)) D27_47 (by decide)).trans ?_
  refine zif_c (fun h0_ => ?_) (fun h0_ => ?_)
  · refine (Q_aload_n zm_27 (Or.inl (by decide)) D27_60 rfl).trans ?_
    refine (Q_iconst (v := 3) zm_27 (Or.inl (by decide)) D27_61 (by decide)).trans ?_
    exact Q_callv (as := [.int (3 : Int32)]) (b := 1) (rest := []) zm_27 (Or.inl (by decide)) D27_62 zc_4_66 rfl zk_1.1 (by decide) (by decide +kernel) (by decide) (by simp [zcat, Value.category]) zm_24 rfl
  · refine (Q_iload_n zm_27 (Or.inl (by decide)) D27_50 rfl).trans ?_
    refine (Q_iload_n zm_27 (Or.inl (by decide)) D27_51 rfl).trans ?_
    refine (Q_ic_ne (tgt := 60) zm_27 (Or.inl (by decide)) D27_52 (by decide)).trans ?_
    refine zif_c (fun h1_ => ?_) (fun h1_ => ?_)
    · refine (Q_aload_n zm_27 (Or.inl (by decide)) D27_60 rfl).trans ?_
      refine (Q_iconst (v := 3) zm_27 (Or.inl (by decide)) D27_61 (by decide)).trans ?_
      exact Q_callv (as := [.int (3 : Int32)]) (b := 1) (rest := []) zm_27 (Or.inl (by decide)) D27_62 zc_4_66 rfl zk_1.1 (by decide) (by decide +kernel) (by decide) (by simp [zcat, Value.category]) zm_24 rfl
    · refine (Q_aload_n zm_27 (Or.inl (by decide)) D27_55 rfl).trans ?_
      refine (Q_iconst (v := 5) zm_27 (Or.inl (by decide)) D27_56 (by decide)).trans ?_
      exact Q_callv (as := [.int (5 : Int32)]) (b := 1) (rest := []) zm_27 (Or.inl (by decide)) D27_57 zc_4_78 rfl zk_1.1 (by decide) (by decide +kernel) (by decide) (by simp [zcat, Value.category]) zm_23 rfl

theorem b27_36 {d : Nat} {i1 : Int32} {i2 : Int32} {ia : Nat → Nat → Int32} {la : Nat → Nat → Int64} {pl dr : Nat} {cp : Option Nat} {cw : Option Nat} {rp : Nat} {K : Option Value → zHP → Prop}  : zWP (d + 1) 27 36 [some (.ref 1), some (.int i1), some (.int i2)] [] (ia, la, zRA pl dr cp cw (some rp)) K = zWM d 24 [.ref 1, .int (3 : Int32)] (ia, la, zRA pl dr cp cw (some rp)) (zK (d + 1) 27 65 [some (.ref 1), some (.int i1), some (.int i2)] [] K) := by
  refine (Q_goto (tgt := 60) zm_27 (Or.inl (by decide)) D27_36 (by decide)).trans ?_
  refine (Q_aload_n zm_27 (Or.inl (by decide)) D27_60 rfl).trans ?_
  refine (Q_iconst (v := 3) zm_27 (Or.inl (by decide)) D27_61 (by decide)).trans ?_
  exact Q_callv (as := [.int (3 : Int32)]) (b := 1) (rest := []) zm_27 (Or.inl (by decide)) D27_62 zc_4_66 rfl zk_1.1 (by decide) (by decide +kernel) (by decide) (by simp [zcat, Value.category]) zm_24 rfl

theorem b27_65 {d : Nat} {i1 : Int32} {i2 : Int32} {ia : Nat → Nat → Int32} {la : Nat → Nat → Int64} {pl dr : Nat} {cp : Option Nat} {cw : Option Nat} {rp : Nat} {K : Option Value → zHP → Prop}  : zWP d 27 65 [some (.ref 1), some (.int i1), some (.int i2)] [] (ia, la, zRA pl dr cp cw (some rp)) K = K (some (.int i2)) (ia, la, zRA pl dr cp cw (some rp)) := by
  refine (Q_iload_n zm_27 (Or.inl (by decide)) D27_65 rfl).trans ?_
  exact Q_ireturn zm_27 (Or.inl (by decide)) D27_66 rfl

theorem b27_60 {d : Nat} {i1 : Int32} {i2 : Int32} {ia : Nat → Nat → Int32} {la : Nat → Nat → Int64} {pl dr : Nat} {cp : Option Nat} {cw : Option Nat} {rp : Nat} {K : Option Value → zHP → Prop}  : zWP (d + 1) 27 60 [some (.ref 1), some (.int i1), some (.int i2)] [] (ia, la, zRA pl dr cp cw (some rp)) K = zWM d 24 [.ref 1, .int (3 : Int32)] (ia, la, zRA pl dr cp cw (some rp)) (zK (d + 1) 27 65 [some (.ref 1), some (.int i1), some (.int i2)] [] K) := by
  refine (Q_aload_n zm_27 (Or.inl (by decide)) D27_60 rfl).trans ?_
  refine (Q_iconst (v := 3) zm_27 (Or.inl (by decide)) D27_61 (by decide)).trans ?_
  exact Q_callv (as := [.int (3 : Int32)]) (b := 1) (rest := []) zm_27 (Or.inl (by decide)) D27_62 zc_4_66 rfl zk_1.1 (by decide) (by decide +kernel) (by decide) (by simp [zcat, Value.category]) zm_24 rfl

/-! HandsLet$Reader.readMan()V -/
theorem D28_0 : decode prog_6_method_8_code 0 = .ok (.aload_n 0, 1) := by decide +kernel
theorem D28_1 : decode prog_6_method_8_code 1 = .ok (.getfield 26, 3) := by decide +kernel
theorem D28_4 : decode prog_6_method_8_code 4 = .ok (.getfield 88, 3) := by decide +kernel
theorem D28_7 : decode prog_6_method_8_code 7 = .ok (.bipush 6, 2) := by decide +kernel
theorem D28_9 : decode prog_6_method_8_code 9 = .ok (.if_icmp .lt 9, 3) := by decide +kernel
theorem D28_12 : decode prog_6_method_8_code 12 = .ok (.aload_n 0, 1) := by decide +kernel
theorem D28_13 : decode prog_6_method_8_code 13 = .ok (.iconst 2, 1) := by decide +kernel
theorem D28_14 : decode prog_6_method_8_code 14 = .ok (.invokevirtual 78, 3) := by decide +kernel
theorem D28_17 : decode prog_6_method_8_code 17 = .ok (.return_, 1) := by decide +kernel
theorem D28_18 : decode prog_6_method_8_code 18 = .ok (.aload_n 0, 1) := by decide +kernel
theorem D28_19 : decode prog_6_method_8_code 19 = .ok (.getfield 26, 3) := by decide +kernel
theorem D28_22 : decode prog_6_method_8_code 22 = .ok (.getfield 88, 3) := by decide +kernel
theorem D28_25 : decode prog_6_method_8_code 25 = .ok (.istore_n 1, 1) := by decide +kernel
theorem D28_26 : decode prog_6_method_8_code 26 = .ok (.aload_n 0, 1) := by decide +kernel
theorem D28_27 : decode prog_6_method_8_code 27 = .ok (.getfield 12, 3) := by decide +kernel
theorem D28_30 : decode prog_6_method_8_code 30 = .ok (.invokevirtual 75, 3) := by decide +kernel
theorem D28_33 : decode prog_6_method_8_code 33 = .ok (.aload_n 0, 1) := by decide +kernel
theorem D28_34 : decode prog_6_method_8_code 34 = .ok (.getfield 26, 3) := by decide +kernel
theorem D28_37 : decode prog_6_method_8_code 37 = .ok (.getfield 91, 3) := by decide +kernel
theorem D28_40 : decode prog_6_method_8_code 40 = .ok (.iload_n 1, 1) := by decide +kernel
theorem D28_41 : decode prog_6_method_8_code 41 = .ok (.aload_n 0, 1) := by decide +kernel
theorem D28_42 : decode prog_6_method_8_code 42 = .ok (.invokevirtual 94, 3) := by decide +kernel
theorem D28_45 : decode prog_6_method_8_code 45 = .ok (.iastore, 1) := by decide +kernel
theorem D28_46 : decode prog_6_method_8_code 46 = .ok (.iload_n 1, 1) := by decide +kernel
theorem D28_47 : decode prog_6_method_8_code 47 = .ok (.iconst 3, 1) := by decide +kernel
theorem D28_48 : decode prog_6_method_8_code 48 = .ok (.imul, 1) := by decide +kernel
theorem D28_49 : decode prog_6_method_8_code 49 = .ok (.istore_n 2, 1) := by decide +kernel
theorem D28_50 : decode prog_6_method_8_code 50 = .ok (.iload_n 2, 1) := by decide +kernel
theorem D28_51 : decode prog_6_method_8_code 51 = .ok (.iload_n 1, 1) := by decide +kernel
theorem D28_52 : decode prog_6_method_8_code 52 = .ok (.iconst 3, 1) := by decide +kernel
theorem D28_53 : decode prog_6_method_8_code 53 = .ok (.imul, 1) := by decide +kernel
theorem D28_54 : decode prog_6_method_8_code 54 = .ok (.iconst 3, 1) := by decide +kernel
theorem D28_55 : decode prog_6_method_8_code 55 = .ok (.iadd, 1) := by decide +kernel
theorem D28_56 : decode prog_6_method_8_code 56 = .ok (.if_icmp .ge 25, 3) := by decide +kernel
theorem D28_59 : decode prog_6_method_8_code 59 = .ok (.aload_n 0, 1) := by decide +kernel
theorem D28_60 : decode prog_6_method_8_code 60 = .ok (.getfield 26, 3) := by decide +kernel
theorem D28_63 : decode prog_6_method_8_code 63 = .ok (.getfield 98, 3) := by decide +kernel
theorem D28_66 : decode prog_6_method_8_code 66 = .ok (.iload_n 2, 1) := by decide +kernel
theorem D28_67 : decode prog_6_method_8_code 67 = .ok (.aload_n 0, 1) := by decide +kernel
theorem D28_68 : decode prog_6_method_8_code 68 = .ok (.iconst 0, 1) := by decide +kernel
theorem D28_69 : decode prog_6_method_8_code 69 = .ok (.bipush 99, 2) := by decide +kernel
theorem D28_71 : decode prog_6_method_8_code 71 = .ok (.invokevirtual 101, 3) := by decide +kernel
theorem D28_74 : decode prog_6_method_8_code 74 = .ok (.iastore, 1) := by decide +kernel
theorem D28_75 : decode prog_6_method_8_code 75 = .ok (.iinc 2 1, 3) := by decide +kernel
theorem D28_78 : decode prog_6_method_8_code 78 = .ok (.goto (-28), 3) := by decide +kernel
theorem D28_81 : decode prog_6_method_8_code 81 = .ok (.aload_n 0, 1) := by decide +kernel
theorem D28_82 : decode prog_6_method_8_code 82 = .ok (.getfield 26, 3) := by decide +kernel
theorem D28_85 : decode prog_6_method_8_code 85 = .ok (.getfield 105, 3) := by decide +kernel
theorem D28_88 : decode prog_6_method_8_code 88 = .ok (.iload_n 1, 1) := by decide +kernel
theorem D28_89 : decode prog_6_method_8_code 89 = .ok (.aload_n 0, 1) := by decide +kernel
theorem D28_90 : decode prog_6_method_8_code 90 = .ok (.iconst 0, 1) := by decide +kernel
theorem D28_91 : decode prog_6_method_8_code 91 = .ok (.sipush 999, 3) := by decide +kernel
theorem D28_94 : decode prog_6_method_8_code 94 = .ok (.invokevirtual 101, 3) := by decide +kernel
theorem D28_97 : decode prog_6_method_8_code 97 = .ok (.iastore, 1) := by decide +kernel
theorem D28_98 : decode prog_6_method_8_code 98 = .ok (.aload_n 0, 1) := by decide +kernel
theorem D28_99 : decode prog_6_method_8_code 99 = .ok (.getfield 26, 3) := by decide +kernel
theorem D28_102 : decode prog_6_method_8_code 102 = .ok (.dup, 1) := by decide +kernel
theorem D28_103 : decode prog_6_method_8_code 103 = .ok (.getfield 88, 3) := by decide +kernel
theorem D28_106 : decode prog_6_method_8_code 106 = .ok (.iconst 1, 1) := by decide +kernel
theorem D28_107 : decode prog_6_method_8_code 107 = .ok (.iadd, 1) := by decide +kernel
theorem D28_108 : decode prog_6_method_8_code 108 = .ok (.putfield 88, 3) := by decide +kernel
theorem D28_111 : decode prog_6_method_8_code 111 = .ok (.return_, 1) := by decide +kernel

theorem b28_0 {d : Nat}  {ia : Nat → Nat → Int32} {la : Nat → Nat → Int64} {pl dr : Nat} {cp : Option Nat} {cw : Option Nat} {rp : Nat} {K : Option Value → zHP → Prop} (hrp : zIsP rp) : zWP (d + 1) 28 0 [some (.ref 1), none, none] [] (ia, la, zRA pl dr cp cw (some rp)) K = (if (ia rp 1) < (6 : Int32) then zWM d 59 [.ref 2] (ia, la, zRA pl dr cp cw (some rp)) (zK (d + 1) 28 33 [some (.ref 1), some (.int (ia rp 1)), none] [] K) else zWM d 23 [.ref 1, .int (2 : Int32)] (ia, la, zRA pl dr cp cw (some rp)) (zK (d + 1) 28 17 [some (.ref 1), none, none] [] K)) := by
  refine (Q_aload_n zm_28 (Or.inl (by decide)) D28_0 rfl).trans ?_
  refine (Q_getR (q := rp) zm_28 (Or.inl (by decide)) D28_1 zf_4_26 zs_4_1 zk_1.1 rfl).trans ?_
  refine (Q_getI zm_28 (Or.inl (by decide)) D28_4 zf_4_88 (Or.inl zs_3_1) (zkp_0 hrp).1).trans ?_
  refine (Q_bipush (v := 6) zm_28 (Or.inl (by decide)) D28_7 (by decide)).trans ?_
  refine (Q_ic_lt (tgt := 18) zm_28 (Or.inl (by decide)) D28_9 (by decide)).trans ?_
  refine zif_c (fun h0_ => ?_) (fun h0_ => ?_)
  · refine (Q_aload_n zm_28 (Or.inl (by decide)) D28_18 rfl).trans ?_
    refine (Q_getR (q := rp) zm_28 (Or.inl (by decide)) D28_19 zf_4_26 zs_4_1 zk_1.1 rfl).trans ?_
    refine (Q_getI zm_28 (Or.inl (by decide)) D28_22 zf_4_88 (Or.inl zs_3_1) (zkp_0 hrp).1).trans ?_
    refine (Q_istore_n (ls' := [some (.ref 1), some (.int (ia rp 1)), none]) zm_28 (Or.inl (by decide)) D28_25 rfl (Nat.le_of_ble_eq_true rfl) rfl).trans ?_
    refine (Q_aload_n zm_28 (Or.inl (by decide)) D28_26 rfl).trans ?_
    refine (Q_getR (q := 2) zm_28 (Or.inl (by decide)) D28_27 zf_4_12 zs_4_0 zk_1.1 rfl).trans ?_
    exact Q_callv (as := []) (b := 2) (rest := []) zm_28 (Or.inl (by decide)) D28_30 zc_4_75 rfl zk_2.1 (by decide) (by decide +kernel) (by decide) (by simp [zcat, Value.category]) zm_59 rfl
  · refine (Q_aload_n zm_28 (Or.inl (by decide)) D28_12 rfl).trans ?_
    refine (Q_iconst (v := 2) zm_28 (Or.inl (by decide)) D28_13 (by decide)).trans ?_
    exact Q_callv (as := [.int (2 : Int32)]) (b := 1) (rest := []) zm_28 (Or.inl (by decide)) D28_14 zc_4_78 rfl zk_1.1 (by decide) (by decide +kernel) (by decide) (by simp [zcat, Value.category]) zm_23 rfl

theorem b28_33 {d : Nat} {i1 : Int32} {ia : Nat → Nat → Int32} {la : Nat → Nat → Int64} {pl dr : Nat} {cp : Option Nat} {cw : Option Nat} {rp : Nat} {K : Option Value → zHP → Prop} (hrp : zIsP rp) : zWP (d + 1) 28 33 [some (.ref 1), some (.int i1), none] [] (ia, la, zRA pl dr cp cw (some rp)) K = zWM d 26 [.ref 1] (ia, la, zRA pl dr cp cw (some rp)) (zK (d + 1) 28 45 [some (.ref 1), some (.int i1), none] [.int i1, .ref (rp + 1)] K) := by
  refine (Q_aload_n zm_28 (Or.inl (by decide)) D28_33 rfl).trans ?_
  refine (Q_getR (q := rp) zm_28 (Or.inl (by decide)) D28_34 zf_4_26 zs_4_1 zk_1.1 rfl).trans ?_
  refine (Q_getR (q := (rp + 1)) zm_28 (Or.inl (by decide)) D28_37 zf_4_91 zs_3_5 (zkp_0 hrp).1 (zrp_5 hrp)).trans ?_
  refine (Q_iload_n zm_28 (Or.inl (by decide)) D28_40 rfl).trans ?_
  refine (Q_aload_n zm_28 (Or.inl (by decide)) D28_41 rfl).trans ?_
  exact Q_callv (as := []) (b := 1) (rest := [.int i1, .ref (rp + 1)]) zm_28 (Or.inl (by decide)) D28_42 zc_4_94 rfl zk_1.1 (by decide) (by decide +kernel) (by decide) (by simp [zcat, Value.category]) zm_26 rfl

theorem b28_17 {d : Nat}  {ia : Nat → Nat → Int32} {la : Nat → Nat → Int64} {pl dr : Nat} {cp : Option Nat} {cw : Option Nat} {rp : Nat} {K : Option Value → zHP → Prop}  : zWP d 28 17 [some (.ref 1), none, none] [] (ia, la, zRA pl dr cp cw (some rp)) K = K none (ia, la, zRA pl dr cp cw (some rp)) := by
  exact Q_return zm_28 (Or.inl (by decide)) D28_17 rfl

theorem b28_45 {d : Nat} {i1 : Int32} {s1 : Int32} {s2 : Int32} {ia : Nat → Nat → Int32} {la : Nat → Nat → Int64} {pl dr : Nat} {cp : Option Nat} {cw : Option Nat} {rp : Nat} {K : Option Value → zHP → Prop} (hrp : zIsP rp) : zWP d 28 45 [some (.ref 1), some (.int i1), none] [.int s2, .int s1, .ref (rp + 1)] (ia, la, zRA pl dr cp cw (some rp)) K = (vp_in s1 6 ∧ zWP d 28 50 [some (.ref 1), some (.int i1), some (.int (i1 * (3 : Int32)))] [] ((zu ia (rp + 1) (s1).toNatClampNeg s2), la, zRA pl dr cp cw (some rp)) K) := by
  refine (Q_iastore zm_28 (Or.inl (by decide)) D28_45 (zkp_1 hrp).1 (zkp_1 hrp).2).trans ?_
  refine zand_c (fun h0_ => ?_)
  refine (Q_iload_n zm_28 (Or.inl (by decide)) D28_46 rfl).trans ?_
  refine (Q_iconst (v := 3) zm_28 (Or.inl (by decide)) D28_47 (by decide)).trans ?_
  refine (Q_imul zm_28 (Or.inl (by decide)) D28_48).trans ?_
  refine (Q_istore_n (ls' := [some (.ref 1), some (.int i1), some (.int (i1 * (3 : Int32)))]) zm_28 (Or.inl (by decide)) D28_49 rfl (Nat.le_of_ble_eq_true rfl) rfl).trans ?_
  rfl

theorem b28_50 {d : Nat} {i1 : Int32} {i2 : Int32} {ia : Nat → Nat → Int32} {la : Nat → Nat → Int64} {pl dr : Nat} {cp : Option Nat} {cw : Option Nat} {rp : Nat} {K : Option Value → zHP → Prop} (hrp : zIsP rp) : zWP (d + 1) 28 50 [some (.ref 1), some (.int i1), some (.int i2)] [] (ia, la, zRA pl dr cp cw (some rp)) K = (if ((i1 * (3 : Int32)) + (3 : Int32)) ≤ i2 then zWM d 25 [.ref 1, .int (0 : Int32), .int (999 : Int32)] (ia, la, zRA pl dr cp cw (some rp)) (zK (d + 1) 28 97 [some (.ref 1), some (.int i1), some (.int i2)] [.int i1, .ref (rp + 3)] K) else zWM d 25 [.ref 1, .int (0 : Int32), .int (99 : Int32)] (ia, la, zRA pl dr cp cw (some rp)) (zK (d + 1) 28 74 [some (.ref 1), some (.int i1), some (.int i2)] [.int i2, .ref (rp + 2)] K)) := by
  refine (Q_iload_n zm_28 (Or.inl (by decide)) D28_50 rfl).trans ?_
  refine (Q_iload_n zm_28 (Or.inl (by decide)) D28_51 rfl).trans ?_
  refine (Q_iconst (v := 3) zm_28 (Or.inl (by decide)) D28_52 (by decide)).trans ?_
  refine (Q_imul zm_28 (Or.inl (by decide)) D28_53).trans ?_
  refine (Q_iconst (v := 3) zm_28 (Or.inl (by decide)) D28_54 (by decide)).trans ?_
  refine (Q_iadd zm_28 (Or.inl (by decide)) D28_55).trans ?_
  refine (Q_ic_ge (tgt := 81) zm_28 (Or.inl (by decide)) D28_56 (by decide)).trans ?_
  refine zif_c (fun h0_ => ?_) (fun h0_ => ?_)
  · refine (Q_aload_n zm_28 (Or.inl (by decide)) D28_81 rfl).trans ?_
    refine (Q_getR (q := rp) zm_28 (Or.inl (by decide)) D28_82 zf_4_26 zs_4_1 zk_1.1 rfl).trans ?_
    refine (Q_getR (q := (rp + 3)) zm_28 (Or.inl (by decide)) D28_85 zf_4_105 zs_3_7 (zkp_0 hrp).1 (zrp_7 hrp)).trans ?_
    refine (Q_iload_n zm_28 (Or.inl (by decide)) D28_88 rfl).trans ?_
    refine (Q_aload_n zm_28 (Or.inl (by decide)) D28_89 rfl).trans ?_
    refine (Q_iconst (v := 0) zm_28 (Or.inl (by decide)) D28_90 (by decide)).trans ?_
    refine (Q_sipush (v := 999) zm_28 (Or.inl (by decide)) D28_91 (by decide)).trans ?_
    exact Q_callv (as := [.int (0 : Int32), .int (999 : Int32)]) (b := 1) (rest := [.int i1, .ref (rp + 3)]) zm_28 (Or.inl (by decide)) D28_94 zc_4_101 rfl zk_1.1 (by decide) (by decide +kernel) (by decide) (by simp [zcat, Value.category]) zm_25 rfl
  · refine (Q_aload_n zm_28 (Or.inl (by decide)) D28_59 rfl).trans ?_
    refine (Q_getR (q := rp) zm_28 (Or.inl (by decide)) D28_60 zf_4_26 zs_4_1 zk_1.1 rfl).trans ?_
    refine (Q_getR (q := (rp + 2)) zm_28 (Or.inl (by decide)) D28_63 zf_4_98 zs_3_6 (zkp_0 hrp).1 (zrp_6 hrp)).trans ?_
    refine (Q_iload_n zm_28 (Or.inl (by decide)) D28_66 rfl).trans ?_
    refine (Q_aload_n zm_28 (Or.inl (by decide)) D28_67 rfl).trans ?_
    refine (Q_iconst (v := 0) zm_28 (Or.inl (by decide)) D28_68 (by decide)).trans ?_
    refine (Q_bipush (v := 99) zm_28 (Or.inl (by decide)) D28_69 (by decide)).trans ?_
    exact Q_callv (as := [.int (0 : Int32), .int (99 : Int32)]) (b := 1) (rest := [.int i2, .ref (rp + 2)]) zm_28 (Or.inl (by decide)) D28_71 zc_4_101 rfl zk_1.1 (by decide) (by decide +kernel) (by decide) (by simp [zcat, Value.category]) zm_25 rfl

theorem b28_97 {d : Nat} {i1 : Int32} {i2 : Int32} {s1 : Int32} {s2 : Int32} {ia : Nat → Nat → Int32} {la : Nat → Nat → Int64} {pl dr : Nat} {cp : Option Nat} {cw : Option Nat} {rp : Nat} {K : Option Value → zHP → Prop} (hrp : zIsP rp) : zWP d 28 97 [some (.ref 1), some (.int i1), some (.int i2)] [.int s2, .int s1, .ref (rp + 3)] (ia, la, zRA pl dr cp cw (some rp)) K = (vp_in s1 6 ∧ K none ((zu (zu ia (rp + 3) (s1).toNatClampNeg s2) rp 1 (((zu ia (rp + 3) (s1).toNatClampNeg s2) rp 1) + (1 : Int32))), la, zRA pl dr cp cw (some rp))) := by
  refine (Q_iastore zm_28 (Or.inl (by decide)) D28_97 (zkp_3 hrp).1 (zkp_3 hrp).2).trans ?_
  refine zand_c (fun h0_ => ?_)
  refine (Q_aload_n zm_28 (Or.inl (by decide)) D28_98 rfl).trans ?_
  refine (Q_getR (q := rp) zm_28 (Or.inl (by decide)) D28_99 zf_4_26 zs_4_1 zk_1.1 rfl).trans ?_
  refine (Q_dup zm_28 (Or.inl (by decide)) D28_102 rfl).trans ?_
  refine (Q_getI zm_28 (Or.inl (by decide)) D28_103 zf_4_88 (Or.inl zs_3_1) (zkp_0 hrp).1).trans ?_
  refine (Q_iconst (v := 1) zm_28 (Or.inl (by decide)) D28_106 (by decide)).trans ?_
  refine (Q_iadd zm_28 (Or.inl (by decide)) D28_107).trans ?_
  refine (Q_putI zm_28 (Or.inl (by decide)) D28_108 zf_4_88 zs_3_1 rfl (zkp_0 hrp).1).trans ?_
  exact Q_return zm_28 (Or.inl (by decide)) D28_111 rfl

theorem b28_74 {d : Nat} {i1 : Int32} {i2 : Int32} {s1 : Int32} {s2 : Int32} {ia : Nat → Nat → Int32} {la : Nat → Nat → Int64} {pl dr : Nat} {cp : Option Nat} {cw : Option Nat} {rp : Nat} {K : Option Value → zHP → Prop} (hrp : zIsP rp) : zWP d 28 74 [some (.ref 1), some (.int i1), some (.int i2)] [.int s2, .int s1, .ref (rp + 2)] (ia, la, zRA pl dr cp cw (some rp)) K = (vp_in s1 18 ∧ zWP d 28 50 [some (.ref 1), some (.int i1), some (.int (i2 + (1 : Int32)))] [] ((zu ia (rp + 2) (s1).toNatClampNeg s2), la, zRA pl dr cp cw (some rp)) K) := by
  refine (Q_iastore zm_28 (Or.inl (by decide)) D28_74 (zkp_2 hrp).1 (zkp_2 hrp).2).trans ?_
  refine zand_c (fun h0_ => ?_)
  refine (Q_iinc (v := 1) (ls' := [some (.ref 1), some (.int i1), some (.int (i2 + (1 : Int32)))]) zm_28 (Or.inl (by decide)) D28_75 rfl rfl (by decide) rfl).trans ?_
  refine (Q_goto (tgt := 50) zm_28 (Or.inl (by decide)) D28_78 (by decide)).trans ?_
  rfl
