/-! HandsLet$Tokens.kindOfWord(I)I -/
theorem D63_0 : decode prog_9_method_9_code 0 = .ok (.iconst 0, 1) := by decide +kernel
theorem D63_1 : decode prog_9_method_9_code 1 = .ok (.istore_n 2, 1) := by decide +kernel
theorem D63_2 : decode prog_9_method_9_code 2 = .ok (.iload_n 2, 1) := by decide +kernel
theorem D63_3 : decode prog_9_method_9_code 3 = .ok (.bipush 20, 2) := by decide +kernel
theorem D63_5 : decode prog_9_method_9_code 5 = .ok (.if_icmp .ge 24, 3) := by decide +kernel
theorem D63_8 : decode prog_9_method_9_code 8 = .ok (.aload_n 0, 1) := by decide +kernel
theorem D63_9 : decode prog_9_method_9_code 9 = .ok (.getfield 15, 3) := by decide +kernel
theorem D63_12 : decode prog_9_method_9_code 12 = .ok (.iload_n 2, 1) := by decide +kernel
theorem D63_13 : decode prog_9_method_9_code 13 = .ok (.iaload, 1) := by decide +kernel
theorem D63_14 : decode prog_9_method_9_code 14 = .ok (.iload_n 1, 1) := by decide +kernel
theorem D63_15 : decode prog_9_method_9_code 15 = .ok (.if_icmp .ne 8, 3) := by decide +kernel
theorem D63_18 : decode prog_9_method_9_code 18 = .ok (.bipush 20, 2) := by decide +kernel
theorem D63_20 : decode prog_9_method_9_code 20 = .ok (.iload_n 2, 1) := by decide +kernel
theorem D63_21 : decode prog_9_method_9_code 21 = .ok (.iadd, 1) := by decide +kernel
theorem D63_22 : decode prog_9_method_9_code 22 = .ok (.ireturn, 1) := by decide +kernel
theorem D63_23 : decode prog_9_method_9_code 23 = .ok (.iinc 2 1, 3) := by decide +kernel
theorem D63_26 : decode prog_9_method_9_code 26 = .ok (.goto (-24), 3) := by decide +kernel
theorem D63_29 : decode prog_9_method_9_code 29 = .ok (.iconst 3, 1) := by decide +kernel
theorem D63_30 : decode prog_9_method_9_code 30 = .ok (.ireturn, 1) := by decide +kernel

theorem b63_0 {d : Nat} {i1 : Int32} {ia : Nat → Nat → Int32} {la : Nat → Nat → Int64} {pl dr : Nat} {cp : Option Nat} {cw : Option Nat} {rp : Option Nat} {K : Option Value → zHP → Prop}  : zWP d 63 0 [some (.ref 2), some (.int i1), none] [] (ia, la, zRA pl dr cp cw rp) K = zWP d 63 2 [some (.ref 2), some (.int i1), some (.int (0 : Int32))] [] (ia, la, zRA pl dr cp cw rp) K := by
  refine (Q_iconst (v := 0) zm_63 (Or.inl (by decide)) D63_0 (by decide)).trans ?_
  refine (Q_istore_n (ls' := [some (.ref 2), some (.int i1), some (.int (0 : Int32))]) zm_63 (Or.inl (by decide)) D63_1 rfl (Nat.le_of_ble_eq_true rfl) rfl).trans ?_
  rfl

theorem b63_2 {d : Nat} {i1 : Int32} {i2 : Int32} {ia : Nat → Nat → Int32} {la : Nat → Nat → Int64} {pl dr : Nat} {cp : Option Nat} {cw : Option Nat} {rp : Option Nat} {K : Option Value → zHP → Prop}  : zWP d 63 2 [some (.ref 2), some (.int i1), some (.int i2)] [] (ia, la, zRA pl dr cp cw rp) K = (if (20 : Int32) ≤ i2 then K (some (.int (3 : Int32))) (ia, la, zRA pl dr cp cw rp) else (vp_in i2 20 ∧ (if ¬ (ia 4 (i2).toNatClampNeg) = i1 then zWP d 63 2 [some (.ref 2), some (.int i1), some (.int (i2 + (1 : Int32)))] [] (ia, la, zRA pl dr cp cw rp) K else K (some (.int ((20 : Int32) + i2))) (ia, la, zRA pl dr cp cw rp)))) := by
  refine (Q_iload_n zm_63 (Or.inl (by decide)) D63_2 rfl).trans ?_
  refine (Q_bipush (v := 20) zm_63 (Or.inl (by decide)) D63_3 (by decide)).trans ?_
  refine (Q_ic_ge (tgt := 29) zm_63 (Or.inl (by decide)) D63_5 (by decide)).trans ?_
  refine zif_c (fun h0_ => ?_) (fun h0_ => ?_)
  · refine (Q_iconst (v := 3) zm_63 (Or.inl (by decide)) D63_29 (by decide)).trans ?_
    exact Q_ireturn zm_63 (Or.inl (by decide)) D63_30 rfl
  · refine (Q_aload_n zm_63 (Or.inl (by decide)) D63_8 rfl).trans ?_
    refine (Q_getR (q := 4) zm_63 (Or.inl (by decide)) D63_9 zf_7_15 zs_7_2 zk_2.1 rfl).trans ?_
    refine (Q_iload_n zm_63 (Or.inl (by decide)) D63_12 rfl).trans ?_
    refine (Q_iaload zm_63 (Or.inl (by decide)) D63_13 zk_4.1 zk_4.2).trans ?_
    refine zand_c (fun h1_ => ?_)
    refine (Q_iload_n zm_63 (Or.inl (by decide)) D63_14 rfl).trans ?_
    refine (Q_ic_ne (tgt := 23) zm_63 (Or.inl (by decide)) D63_15 (by decide)).trans ?_
    refine zif_c (fun h2_ => ?_) (fun h2_ => ?_)
    · refine (Q_iinc (v := 1) (ls' := [some (.ref 2), some (.int i1), some (.int (i2 + (1 : Int32)))]) zm_63 (Or.inl (by decide)) D63_23 rfl rfl (by decide) rfl).trans ?_
      refine (Q_goto (tgt := 2) zm_63 (Or.inl (by decide)) D63_26 (by decide)).trans ?_
      rfl
    · refine (Q_bipush (v := 20) zm_63 (Or.inl (by decide)) D63_18 (by decide)).trans ?_
      refine (Q_iload_n zm_63 (Or.inl (by decide)) D63_20 rfl).trans ?_
      refine (Q_iadd zm_63 (Or.inl (by decide)) D63_21).trans ?_
      exact Q_ireturn zm_63 (Or.inl (by decide)) D63_22 rfl

/-! HandsLet$Tokens.readNumber()V -/
theorem D64_0 : decode prog_9_method_10_code 0 = .ok (.aload_n 0, 1) := by decide +kernel
theorem D64_1 : decode prog_9_method_10_code 1 = .ok (.iconst 2, 1) := by decide +kernel
theorem D64_2 : decode prog_9_method_10_code 2 = .ok (.putfield 58, 3) := by decide +kernel
theorem D64_5 : decode prog_9_method_10_code 5 = .ok (.aload_n 0, 1) := by decide +kernel
theorem D64_6 : decode prog_9_method_10_code 6 = .ok (.getfield 46, 3) := by decide +kernel
theorem D64_9 : decode prog_9_method_10_code 9 = .ok (.aload_n 0, 1) := by decide +kernel
theorem D64_10 : decode prog_9_method_10_code 10 = .ok (.getfield 44, 3) := by decide +kernel
theorem D64_13 : decode prog_9_method_10_code 13 = .ok (.if_icmp .ge 64, 3) := by decide +kernel
theorem D64_16 : decode prog_9_method_10_code 16 = .ok (.aload_n 0, 1) := by decide +kernel
theorem D64_17 : decode prog_9_method_10_code 17 = .ok (.getfield 9, 3) := by decide +kernel
theorem D64_20 : decode prog_9_method_10_code 20 = .ok (.aload_n 0, 1) := by decide +kernel
theorem D64_21 : decode prog_9_method_10_code 21 = .ok (.getfield 46, 3) := by decide +kernel
theorem D64_24 : decode prog_9_method_10_code 24 = .ok (.baload, 1) := by decide +kernel
theorem D64_25 : decode prog_9_method_10_code 25 = .ok (.invokestatic 68, 3) := by decide +kernel
theorem D64_28 : decode prog_9_method_10_code 28 = .ok (.ifCond .eq 49, 3) := by decide +kernel
theorem D64_31 : decode prog_9_method_10_code 31 = .ok (.aload_n 0, 1) := by decide +kernel
theorem D64_32 : decode prog_9_method_10_code 32 = .ok (.getfield 55, 3) := by decide +kernel
theorem D64_35 : decode prog_9_method_10_code 35 = .ok (.ldc 81, 2) := by decide +kernel
theorem D64_37 : decode prog_9_method_10_code 37 = .ok (.if_icmp .ge 27, 3) := by decide +kernel
theorem D64_40 : decode prog_9_method_10_code 40 = .ok (.aload_n 0, 1) := by decide +kernel
theorem D64_41 : decode prog_9_method_10_code 41 = .ok (.aload_n 0, 1) := by decide +kernel
theorem D64_42 : decode prog_9_method_10_code 42 = .ok (.getfield 55, 3) := by decide +kernel
theorem D64_45 : decode prog_9_method_10_code 45 = .ok (.bipush 10, 2) := by decide +kernel
theorem D64_47 : decode prog_9_method_10_code 47 = .ok (.imul, 1) := by decide +kernel
theorem D64_48 : decode prog_9_method_10_code 48 = .ok (.aload_n 0, 1) := by decide +kernel
theorem D64_49 : decode prog_9_method_10_code 49 = .ok (.getfield 9, 3) := by decide +kernel
theorem D64_52 : decode prog_9_method_10_code 52 = .ok (.aload_n 0, 1) := by decide +kernel
theorem D64_53 : decode prog_9_method_10_code 53 = .ok (.getfield 46, 3) := by decide +kernel
theorem D64_56 : decode prog_9_method_10_code 56 = .ok (.baload, 1) := by decide +kernel
theorem D64_57 : decode prog_9_method_10_code 57 = .ok (.iadd, 1) := by decide +kernel
theorem D64_58 : decode prog_9_method_10_code 58 = .ok (.bipush 48, 2) := by decide +kernel
theorem D64_60 : decode prog_9_method_10_code 60 = .ok (.isub, 1) := by decide +kernel
theorem D64_61 : decode prog_9_method_10_code 61 = .ok (.putfield 55, 3) := by decide +kernel
theorem D64_64 : decode prog_9_method_10_code 64 = .ok (.aload_n 0, 1) := by decide +kernel
theorem D64_65 : decode prog_9_method_10_code 65 = .ok (.dup, 1) := by decide +kernel
theorem D64_66 : decode prog_9_method_10_code 66 = .ok (.getfield 46, 3) := by decide +kernel
theorem D64_69 : decode prog_9_method_10_code 69 = .ok (.iconst 1, 1) := by decide +kernel
theorem D64_70 : decode prog_9_method_10_code 70 = .ok (.iadd, 1) := by decide +kernel
theorem D64_71 : decode prog_9_method_10_code 71 = .ok (.putfield 46, 3) := by decide +kernel
theorem D64_74 : decode prog_9_method_10_code 74 = .ok (.goto (-69), 3) := by decide +kernel
theorem D64_77 : decode prog_9_method_10_code 77 = .ok (.return_, 1) := by decide +kernel

theorem b64_0 {d : Nat}  {ia : Nat → Nat → Int32} {la : Nat → Nat → Int64} {pl dr : Nat} {cp : Option Nat} {cw : Option Nat} {rp : Option Nat} {K : Option Value → zHP → Prop}  : zWP d 64 0 [some (.ref 2)] [] (ia, la, zRA pl dr cp cw rp) K = zWP d 64 5 [some (.ref 2)] [] ((zu ia 2 5 (2 : Int32)), la, zRA pl dr cp cw rp) K := by
  refine (Q_aload_n zm_64 (Or.inl (by decide)) D64_0 rfl).trans ?_
  refine (Q_iconst (v := 2) zm_64 (Or.inl (by decide)) D64_1 (by decide)).trans ?_
  refine (Q_putI zm_64 (Or.inl (by decide)) D64_2 zf_7_58 zs_7_5 rfl zk_2.1).trans ?_
  rfl

theorem b64_5 {d : Nat}  {ia : Nat → Nat → Int32} {la : Nat → Nat → Int64} {pl dr : Nat} {cp : Option Nat} {cw : Option Nat} {rp : Option Nat} {K : Option Value → zHP → Prop}  : zWP (d + 1) 64 5 [some (.ref 2)] [] (ia, la, zRA pl dr cp cw rp) K = (if (ia 2 3) ≤ (ia 2 4) then K none (ia, la, zRA pl dr cp cw rp) else (vp_in (ia 2 4) 700 ∧ zWM d 61 [.int (ia 3 ((ia 2 4)).toNatClampNeg)] (ia, la, zRA pl dr cp cw rp) (zK (d + 1) 64 28 [some (.ref 2)] [] K))) := by
  refine (Q_aload_n zm_64 (Or.inl (by decide)) D64_5 rfl).trans ?_
  refine (Q_getI zm_64 (Or.inl (by decide)) D64_6 zf_7_46 (Or.inl zs_7_4) zk_2.1).trans ?_
  refine (Q_aload_n zm_64 (Or.inl (by decide)) D64_9 rfl).trans ?_
  refine (Q_getI zm_64 (Or.inl (by decide)) D64_10 zf_7_44 (Or.inl zs_7_3) zk_2.1).trans ?_
  refine (Q_ic_ge (tgt := 77) zm_64 (Or.inl (by decide)) D64_13 (by decide)).trans ?_
  refine zif_c (fun h0_ => ?_) (fun h0_ => ?_)
  · exact Q_return zm_64 (Or.inl (by decide)) D64_77 rfl
  · refine (Q_aload_n zm_64 (Or.inl (by decide)) D64_16 rfl).trans ?_
    refine (Q_getR (q := 3) zm_64 (Or.inl (by decide)) D64_17 zf_7_9 zs_7_0 zk_2.1 rfl).trans ?_
    refine (Q_aload_n zm_64 (Or.inl (by decide)) D64_20 rfl).trans ?_
    refine (Q_getI zm_64 (Or.inl (by decide)) D64_21 zf_7_46 (Or.inl zs_7_4) zk_2.1).trans ?_
    refine (Q_baload zm_64 (Or.inl (by decide)) D64_24 zk_3.1 (by decide) zk_3.2).trans ?_
    refine zand_c (fun h1_ => ?_)
    exact Q_calls (as := [.int (ia 3 ((ia 2 4)).toNatClampNeg)]) (rest := []) zm_64 (Or.inl (by decide)) D64_25 zc_7_68 rfl (by decide) (by simp [zcat, Value.category]) zm_61 rfl

theorem b64_28 {d : Nat} {s0 : Int32} {ia : Nat → Nat → Int32} {la : Nat → Nat → Int64} {pl dr : Nat} {cp : Option Nat} {cw : Option Nat} {rp : Option Nat} {K : Option Value → zHP → Prop}  : zWP d 64 28 [some (.ref 2)] [.int s0] (ia, la, zRA pl dr cp cw rp) K = (if s0 = 0 then K none (ia, la, zRA pl dr cp cw rp) else (if (1000000 : Int32) ≤ (ia 2 7) then zWP d 64 5 [some (.ref 2)] [] ((zu ia 2 4 ((ia 2 4) + (1 : Int32))), la, zRA pl dr cp cw rp) K else (vp_in (ia 2 4) 700 ∧ zWP d 64 5 [some (.ref 2)] [] ((zu (zu ia 2 7 ((((ia 2 7) * (10 : Int32)) + (ia 3 ((ia 2 4)).toNatClampNeg)) - (48 : Int32))) 2 4 (((zu ia 2 7 ((((ia 2 7) * (10 : Int32)) + (ia 3 ((ia 2 4)).toNatClampNeg)) - (48 : Int32))) 2 4) + (1 : Int32))), la, zRA pl dr cp cw rp) K))) := by
  refine (Q_if_eq (tgt := 77) zm_64 (Or.inl (by decide)) D64_28 (by decide)).trans ?_
  refine zif_c (fun h0_ => ?_) (fun h0_ => ?_)
  · exact Q_return zm_64 (Or.inl (by decide)) D64_77 rfl
  · refine (Q_aload_n zm_64 (Or.inl (by decide)) D64_31 rfl).trans ?_
    refine (Q_getI zm_64 (Or.inl (by decide)) D64_32 zf_7_55 (Or.inl zs_7_7) zk_2.1).trans ?_
    refine (Q_ldc (v := 1000000) zm_64 (Or.inl (by decide)) D64_35 (by decide +kernel)).trans ?_
    refine (Q_ic_ge (tgt := 64) zm_64 (Or.inl (by decide)) D64_37 (by decide)).trans ?_
    refine zif_c (fun h1_ => ?_) (fun h1_ => ?_)
    · refine (Q_aload_n zm_64 (Or.inl (by decide)) D64_64 rfl).trans ?_
      refine (Q_dup zm_64 (Or.inl (by decide)) D64_65 rfl).trans ?_
      refine (Q_getI zm_64 (Or.inl (by decide)) D64_66 zf_7_46 (Or.inl zs_7_4) zk_2.1).trans ?_
      refine (Q_iconst (v := 1) zm_64 (Or.inl (by decide)) D64_69 (by decide)).trans ?_
      refine (Q_iadd zm_64 (Or.inl (by decide)) D64_70).trans ?_
      refine (Q_putI zm_64 (Or.inl (by decide)) D64_71 zf_7_46 zs_7_4 rfl zk_2.1).trans ?_
      refine (Q_goto (tgt := 5) zm_64 (Or.inl (by decide)) D64_74 (by decide)).trans ?_
      rfl
    · refine (Q_aload_n zm_64 (Or.inl (by decide)) D64_40 rfl).trans ?_
      refine (Q_aload_n zm_64 (Or.inl (by decide)) D64_41 rfl).trans ?_
      refine (Q_getI zm_64 (Or.inl (by decide)) D64_42 zf_7_55 (Or.inl zs_7_7) zk_2.1).trans ?_
      refine (Q_bipush (v := 10) zm_64 (Or.inl (by decide)) D64_45 (by decide)).trans ?_
      refine (Q_imul zm_64 (Or.inl (by decide)) D64_47).trans ?_
      refine (Q_aload_n zm_64 (Or.inl (by decide)) D64_48 rfl).trans ?_
      refine (Q_getR (q := 3) zm_64 (Or.inl (by decide)) D64_49 zf_7_9 zs_7_0 zk_2.1 rfl).trans ?_
      refine (Q_aload_n zm_64 (Or.inl (by decide)) D64_52 rfl).trans ?_
      refine (Q_getI zm_64 (Or.inl (by decide)) D64_53 zf_7_46 (Or.inl zs_7_4) zk_2.1).trans ?_
      refine (Q_baload zm_64 (Or.inl (by decide)) D64_56 zk_3.1 (by decide) zk_3.2).trans ?_
      refine zand_c (fun h2_ => ?_)
      refine (Q_iadd zm_64 (Or.inl (by decide)) D64_57).trans ?_
      refine (Q_bipush (v := 48) zm_64 (Or.inl (by decide)) D64_58 (by decide)).trans ?_
      refine (Q_isub zm_64 (Or.inl (by decide)) D64_60).trans ?_
      refine (Q_putI zm_64 (Or.inl (by decide)) D64_61 zf_7_55 zs_7_7 rfl zk_2.1).trans ?_
      refine (Q_aload_n zm_64 (Or.inl (by decide)) D64_64 rfl).trans ?_
      refine (Q_dup zm_64 (Or.inl (by decide)) D64_65 rfl).trans ?_
      refine (Q_getI zm_64 (Or.inl (by decide)) D64_66 zf_7_46 (Or.inl zs_7_4) zk_2.1).trans ?_
      refine (Q_iconst (v := 1) zm_64 (Or.inl (by decide)) D64_69 (by decide)).trans ?_
      refine (Q_iadd zm_64 (Or.inl (by decide)) D64_70).trans ?_
      refine (Q_putI zm_64 (Or.inl (by decide)) D64_71 zf_7_46 zs_7_4 rfl zk_2.1).trans ?_
      refine (Q_goto (tgt := 5) zm_64 (Or.inl (by decide)) D64_74 (by decide)).trans ?_
      rfl

/-! HandsLet$Tokens.readSign()V -/
theorem D65_0 : decode prog_9_method_11_code 0 = .ok (.aload_n 0, 1) := by decide +kernel
theorem D65_1 : decode prog_9_method_11_code 1 = .ok (.getfield 9, 3) := by decide +kernel
theorem D65_4 : decode prog_9_method_11_code 4 = .ok (.aload_n 0, 1) := by decide +kernel
theorem D65_5 : decode prog_9_method_11_code 5 = .ok (.getfield 46, 3) := by decide +kernel
theorem D65_8 : decode prog_9_method_11_code 8 = .ok (.baload, 1) := by decide +kernel
theorem D65_9 : decode prog_9_method_11_code 9 = .ok (.istore_n 1, 1) := by decide +kernel
theorem D65_10 : decode prog_9_method_11_code 10 = .ok (.aload_n 0, 1) := by decide +kernel
theorem D65_11 : decode prog_9_method_11_code 11 = .ok (.dup, 1) := by decide +kernel
theorem D65_12 : decode prog_9_method_11_code 12 = .ok (.getfield 46, 3) := by decide +kernel
theorem D65_15 : decode prog_9_method_11_code 15 = .ok (.iconst 1, 1) := by decide +kernel
theorem D65_16 : decode prog_9_method_11_code 16 = .ok (.iadd, 1) := by decide +kernel
theorem D65_17 : decode prog_9_method_11_code 17 = .ok (.putfield 46, 3) := by decide +kernel
theorem D65_20 : decode prog_9_method_11_code 20 = .ok (.aload_n 0, 1) := by decide +kernel
theorem D65_21 : decode prog_9_method_11_code 21 = .ok (.getfield 46, 3) := by decide +kernel
theorem D65_24 : decode prog_9_method_11_code 24 = .ok (.aload_n 0, 1) := by decide +kernel
theorem D65_25 : decode prog_9_method_11_code 25 = .ok (.getfield 44, 3) := by decide +kernel
theorem D65_28 : decode prog_9_method_11_code 28 = .ok (.if_icmp .ge 15, 3) := by decide +kernel
theorem D65_31 : decode prog_9_method_11_code 31 = .ok (.aload_n 0, 1) := by decide +kernel
theorem D65_32 : decode prog_9_method_11_code 32 = .ok (.getfield 9, 3) := by decide +kernel
theorem D65_35 : decode prog_9_method_11_code 35 = .ok (.aload_n 0, 1) := by decide +kernel
theorem D65_36 : decode prog_9_method_11_code 36 = .ok (.getfield 46, 3) := by decide +kernel
theorem D65_39 : decode prog_9_method_11_code 39 = .ok (.baload, 1) := by decide +kernel
theorem D65_40 : decode prog_9_method_11_code 40 = .ok (.goto 5, 3) := by decide +kernel
theorem D65_43 : decode prog_9_method_11_code 43 = .ok (.bipush 32, 2) := by decide +kernel
theorem D65_45 : decode prog_9_method_11_code 45 = .ok (.istore_n 2, 1) := by decide +kernel
theorem D65_46 : decode prog_9_method_11_code 46 = .ok (.iload_n 1, 1) := by decide +kernel
theorem D65_47 : decode prog_9_method_11_code 47 = .ok (.bipush 60, 2) := by decide +kernel
theorem D65_49 : decode prog_9_method_11_code 49 = .ok (.if_icmp .ne 28, 3) := by decide +kernel
theorem D65_52 : decode prog_9_method_11_code 52 = .ok (.iload_n 2, 1) := by decide +kernel
theorem D65_53 : decode prog_9_method_11_code 53 = .ok (.bipush 61, 2) := by decide +kernel
theorem D65_55 : decode prog_9_method_11_code 55 = .ok (.if_icmp .ne 22, 3) := by decide +kernel
theorem D65_58 : decode prog_9_method_11_code 58 = .ok (.aload_n 0, 1) := by decide +kernel
theorem D65_59 : decode prog_9_method_11_code 59 = .ok (.bipush 8, 2) := by decide +kernel
theorem D65_61 : decode prog_9_method_11_code 61 = .ok (.putfield 58, 3) := by decide +kernel
theorem D65_64 : decode prog_9_method_11_code 64 = .ok (.aload_n 0, 1) := by decide +kernel
theorem D65_65 : decode prog_9_method_11_code 65 = .ok (.dup, 1) := by decide +kernel
theorem D65_66 : decode prog_9_method_11_code 66 = .ok (.getfield 46, 3) := by decide +kernel
theorem D65_69 : decode prog_9_method_11_code 69 = .ok (.iconst 1, 1) := by decide +kernel
theorem D65_70 : decode prog_9_method_11_code 70 = .ok (.iadd, 1) := by decide +kernel
theorem D65_71 : decode prog_9_method_11_code 71 = .ok (.putfield 46, 3) := by decide +kernel
theorem D65_74 : decode prog_9_method_11_code 74 = .ok (.goto 73, 3) := by decide +kernel
theorem D65_77 : decode prog_9_method_11_code 77 = .ok (.iload_n 1, 1) := by decide +kernel
theorem D65_78 : decode prog_9_method_11_code 78 = .ok (.bipush 60, 2) := by decide +kernel
theorem D65_80 : decode prog_9_method_11_code 80 = .ok (.if_icmp .ne 28, 3) := by decide +kernel
theorem D65_83 : decode prog_9_method_11_code 83 = .ok (.iload_n 2, 1) := by decide +kernel
theorem D65_84 : decode prog_9_method_11_code 84 = .ok (.bipush 62, 2) := by decide +kernel
theorem D65_86 : decode prog_9_method_11_code 86 = .ok (.if_icmp .ne 22, 3) := by decide +kernel
theorem D65_89 : decode prog_9_method_11_code 89 = .ok (.aload_n 0, 1) := by decide +kernel
theorem D65_90 : decode prog_9_method_11_code 90 = .ok (.bipush 10, 2) := by decide +kernel
theorem D65_92 : decode prog_9_method_11_code 92 = .ok (.putfield 58, 3) := by decide +kernel
theorem D65_95 : decode prog_9_method_11_code 95 = .ok (.aload_n 0, 1) := by decide +kernel
theorem D65_96 : decode prog_9_method_11_code 96 = .ok (.dup, 1) := by decide +kernel
theorem D65_97 : decode prog_9_method_11_code 97 = .ok (.getfield 46, 3) := by decide +kernel
theorem D65_100 : decode prog_9_method_11_code 100 = .ok (.iconst 1, 1) := by decide +kernel
theorem D65_101 : decode prog_9_method_11_code 101 = .ok (.iadd, 1) := by decide +kernel
theorem D65_102 : decode prog_9_method_11_code 102 = .ok (.putfield 46, 3) := by decide +kernel
theorem D65_105 : decode prog_9_method_11_code 105 = .ok (.goto 42, 3) := by decide +kernel
theorem D65_108 : decode prog_9_method_11_code 108 = .ok (.iload_n 1, 1) := by decide +kernel
theorem D65_109 : decode prog_9_method_11_code 109 = .ok (.bipush 62, 2) := by decide +kernel
theorem D65_111 : decode prog_9_method_11_code 111 = .ok (.if_icmp .ne 28, 3) := by decide +kernel
theorem D65_114 : decode prog_9_method_11_code 114 = .ok (.iload_n 2, 1) := by decide +kernel
theorem D65_115 : decode prog_9_method_11_code 115 = .ok (.bipush 61, 2) := by decide +kernel
theorem D65_117 : decode prog_9_method_11_code 117 = .ok (.if_icmp .ne 22, 3) := by decide +kernel
theorem D65_120 : decode prog_9_method_11_code 120 = .ok (.aload_n 0, 1) := by decide +kernel
theorem D65_121 : decode prog_9_method_11_code 121 = .ok (.bipush 11, 2) := by decide +kernel
theorem D65_123 : decode prog_9_method_11_code 123 = .ok (.putfield 58, 3) := by decide +kernel
theorem D65_126 : decode prog_9_method_11_code 126 = .ok (.aload_n 0, 1) := by decide +kernel
theorem D65_127 : decode prog_9_method_11_code 127 = .ok (.dup, 1) := by decide +kernel
theorem D65_128 : decode prog_9_method_11_code 128 = .ok (.getfield 46, 3) := by decide +kernel
theorem D65_131 : decode prog_9_method_11_code 131 = .ok (.iconst 1, 1) := by decide +kernel
theorem D65_132 : decode prog_9_method_11_code 132 = .ok (.iadd, 1) := by decide +kernel
theorem D65_133 : decode prog_9_method_11_code 133 = .ok (.putfield 46, 3) := by decide +kernel
theorem D65_136 : decode prog_9_method_11_code 136 = .ok (.goto 11, 3) := by decide +kernel
theorem D65_139 : decode prog_9_method_11_code 139 = .ok (.aload_n 0, 1) := by decide +kernel
theorem D65_140 : decode prog_9_method_11_code 140 = .ok (.iload_n 1, 1) := by decide +kernel
theorem D65_141 : decode prog_9_method_11_code 141 = .ok (.invokestatic 82, 3) := by decide +kernel
theorem D65_144 : decode prog_9_method_11_code 144 = .ok (.putfield 58, 3) := by decide +kernel
theorem D65_147 : decode prog_9_method_11_code 147 = .ok (.return_, 1) := by decide +kernel

theorem b65_0 {d : Nat}  {ia : Nat → Nat → Int32} {la : Nat → Nat → Int64} {pl dr : Nat} {cp : Option Nat} {cw : Option Nat} {rp : Option Nat} {K : Option Value → zHP → Prop}  : zWP d 65 0 [some (.ref 2), none, none] [] (ia, la, zRA pl dr cp cw rp) K = (vp_in (ia 2 4) 700 ∧ (if ((zu ia 2 4 ((ia 2 4) + (1 : Int32))) 2 3) ≤ ((zu ia 2 4 ((ia 2 4) + (1 : Int32))) 2 4) then zWP d 65 45 [some (.ref 2), some (.int (ia 3 ((ia 2 4)).toNatClampNeg)), none] [.int (32 : Int32)] ((zu ia 2 4 ((ia 2 4) + (1 : Int32))), la, zRA pl dr cp cw rp) K else (vp_in ((zu ia 2 4 ((ia 2 4) + (1 : Int32))) 2 4) 700 ∧ zWP d 65 45 [some (.ref 2), some (.int (ia 3 ((ia 2 4)).toNatClampNeg)), none] [.int ((zu ia 2 4 ((ia 2 4) + (1 : Int32))) 3 (((zu ia 2 4 ((ia 2 4) + (1 : Int32))) 2 4)).toNatClampNeg)] ((zu ia 2 4 ((ia 2 4) + (1 : Int32))), la, zRA pl dr cp cw rp) K))) := by
  refine (Q_aload_n zm_65 (Or.inl (by decide)) D65_0 rfl).trans ?_
  refine (Q_getR (q := 3) zm_65 (Or.inl (by decide)) D65_1 zf_7_9 zs_7_0 zk_2.1 rfl).trans ?_
  refine (Q_aload_n zm_65 (Or.inl (by decide)) D65_4 rfl).trans ?_
  refine (Q_getI zm_65 (Or.inl (by decide)) D65_5 zf_7_46 (Or.inl zs_7_4) zk_2.1).trans ?_
  refine (Q_baload zm_65 (Or.inl (by decide)) D65_8 zk_3.1 (by decide) zk_3.2).trans ?_
  refine zand_c (fun h0_ => ?_)
  refine (Q_istore_n (ls' := [some (.ref 2), some (.int (ia 3 ((ia 2 4)).toNatClampNeg)), none]) zm_65 (Or.inl (by decide)) D65_9 rfl (Nat.le_of_ble_eq_true rfl) rfl).trans ?_
  refine (Q_aload_n zm_65 (Or.inl (by decide)) D65_10 rfl).trans ?_
  refine (Q_dup zm_65 (Or.inl (by decide)) D65_11 rfl).trans ?_
  refine (Q_getI zm_65 (Or.inl (by decide)) D65_12 zf_7_46 (Or.inl zs_7_4) zk_2.1).trans ?_
  refine (Q_iconst (v := 1) zm_65 (Or.inl (by decide)) D65_15 (by decide)).trans ?_
  refine (Q_iadd zm_65 (Or.inl (by decide)) D65_16).trans ?_
  refine (Q_putI zm_65 (Or.inl (by decide)) D65_17 zf_7_46 zs_7_4 rfl zk_2.1).trans ?_
  refine (Q_aload_n zm_65 (Or.inl (by decide)) D65_20 rfl).trans ?_
  refine (Q_getI zm_65 (Or.inl (by decide)) D65_21 zf_7_46 (Or.inl zs_7_4) zk_2.1).trans ?_
  refine (Q_aload_n zm_65 (Or.inl (by decide)) D65_24 rfl).trans ?_
  refine (Q_getI zm_65 (Or.inl (by decide)) D65_25 zf_7_44 (Or.inl zs_7_3) zk_2.1).trans ?_
  refine (Q_ic_ge (tgt := 43) zm_65 (Or.inl (by decide)) D65_28 (by decide)).trans ?_
  refine zif_c (fun h1_ => ?_) (fun h1_ => ?_)
  · refine (Q_bipush (v := 32) zm_65 (Or.inl (by decide)) D65_43 (by decide)).trans ?_
    rfl
  · refine (Q_aload_n zm_65 (Or.inl (by decide)) D65_31 rfl).trans ?_
    refine (Q_getR (q := 3) zm_65 (Or.inl (by decide)) D65_32 zf_7_9 zs_7_0 zk_2.1 rfl).trans ?_
    refine (Q_aload_n zm_65 (Or.inl (by decide)) D65_35 rfl).trans ?_
    refine (Q_getI zm_65 (Or.inl (by decide)) D65_36 zf_7_46 (Or.inl zs_7_4) zk_2.1).trans ?_
    refine (Q_baload zm_65 (Or.inl (by decide)) D65_39 zk_3.1 (by decide) zk_3.2).trans ?_
    refine zand_c (fun h2_ => ?_)
    refine (Q_goto (tgt := 45) zm_65 (Or.inl (by decide)) D65_40 (by decide)).trans ?_
    rfl

theorem b65_45 {d : Nat} {i1 : Int32} {s0 : Int32} {ia : Nat → Nat → Int32} {la : Nat → Nat → Int64} {pl dr : Nat} {cp : Option Nat} {cw : Option Nat} {rp : Option Nat} {K : Option Value → zHP → Prop}  : zWP d 65 45 [some (.ref 2), some (.int i1), none] [.int s0] (ia, la, zRA pl dr cp cw rp) K = (if ¬ i1 = (60 : Int32) then zWP d 65 77 [some (.ref 2), some (.int i1), some (.int s0)] [] (ia, la, zRA pl dr cp cw rp) K else (if ¬ s0 = (61 : Int32) then zWP d 65 77 [some (.ref 2), some (.int i1), some (.int s0)] [] (ia, la, zRA pl dr cp cw rp) K else K none ((zu (zu ia 2 5 (8 : Int32)) 2 4 (((zu ia 2 5 (8 : Int32)) 2 4) + (1 : Int32))), la, zRA pl dr cp cw rp))) := by
  refine (Q_istore_n (ls' := [some (.ref 2), some (.int i1), some (.int s0)]) zm_65 (Or.inl (by decide)) D65_45 rfl (Nat.le_of_ble_eq_true rfl) rfl).trans ?_
  refine (Q_iload_n zm_65 (Or.inl (by decide)) D65_46 rfl).trans ?_
  refine (Q_bipush (v := 60) zm_65 (Or.inl (by decide)) D65_47 (by decide)).trans ?_
  refine (Q_ic_ne (tgt := 77) zm_65 (Or.inl (by decide)) D65_49 (by decide)).trans ?_
  refine zif_c (fun h0_ => ?_) (fun h0_ => ?_)
  · rfl
  · refine (Q_iload_n zm_65 (Or.inl (by decide)) D65_52 rfl).trans ?_
    refine (Q_bipush (v := 61) zm_65 (Or.inl (by decide)) D65_53 (by decide)).trans ?_
    refine (Q_ic_ne (tgt := 77) zm_65 (Or.inl (by decide)) D65_55 (by decide)).trans ?_
    refine zif_c (fun h1_ => ?_) (fun h1_ => ?_)
    · rfl
    · refine (Q_aload_n zm_65 (Or.inl (by decide)) D65_58 rfl).trans ?_
      refine (Q_bipush (v := 8) zm_65 (Or.inl (by decide)) D65_59 (by decide)).trans ?_
      refine (Q_putI zm_65 (Or.inl (by decide)) D65_61 zf_7_58 zs_7_5 rfl zk_2.1).trans ?_
      refine (Q_aload_n zm_65 (Or.inl (by decide)) D65_64 rfl).trans ?_
      refine (Q_dup zm_65 (Or.inl (by decide)) D65_65 rfl).trans ?_
      refine (Q_getI zm_65 (Or.inl (by decide)) D65_66 zf_7_46 (Or.inl zs_7_4) zk_2.1).trans ?_
      refine (Q_iconst (v := 1) zm_65 (Or.inl (by decide)) D65_69 (by decide)).trans ?_
      refine (Q_iadd zm_65 (Or.inl (by decide)) D65_70).trans ?_
      refine (Q_putI zm_65 (Or.inl (by decide)) D65_71 zf_7_46 zs_7_4 rfl zk_2.1).trans ?_
      refine (Q_goto (tgt := 147) zm_65 (Or.inl (by decide)) D65_74 (by decide)).trans ?_
      exact Q_return zm_65 (Or.inl (by decide)) D65_147 rfl

theorem b65_77 {d : Nat} {i1 : Int32} {i2 : Int32} {ia : Nat → Nat → Int32} {la : Nat → Nat → Int64} {pl dr : Nat} {cp : Option Nat} {cw : Option Nat} {rp : Option Nat} {K : Option Value → zHP → Prop}  : zWP d 65 77 [some (.ref 2), some (.int i1), some (.int i2)] [] (ia, la, zRA pl dr cp cw rp) K = (if ¬ i1 = (60 : Int32) then zWP d 65 108 [some (.ref 2), some (.int i1), some (.int i2)] [] (ia, la, zRA pl dr cp cw rp) K else (if ¬ i2 = (62 : Int32) then zWP d 65 108 [some (.ref 2), some (.int i1), some (.int i2)] [] (ia, la, zRA pl dr cp cw rp) K else K none ((zu (zu ia 2 5 (10 : Int32)) 2 4 (((zu ia 2 5 (10 : Int32)) 2 4) + (1 : Int32))), la, zRA pl dr cp cw rp))) := by
  refine (Q_iload_n zm_65 (Or.inl (by decide)) D65_77 rfl).trans ?_
  refine (Q_bipush (v := 60) zm_65 (Or.inl (by decide)) D65_78 (by decide)).trans ?_
  refine (Q_ic_ne (tgt := 108) zm_65 (Or.inl (by decide)) D65_80 (by decide)).trans ?_
  refine zif_c (fun h0_ => ?_) (fun h0_ => ?_)
  · rfl
  · refine (Q_iload_n zm_65 (Or.inl (by decide)) D65_83 rfl).trans ?_
    refine (Q_bipush (v := 62) zm_65 (Or.inl (by decide)) D65_84 (by decide)).trans ?_
    refine (Q_ic_ne (tgt := 108) zm_65 (Or.inl (by decide)) D65_86 (by decide)).trans ?_
    refine zif_c (fun h1_ => ?_) (fun h1_ => ?_)
    · rfl
    · refine (Q_aload_n zm_65 (Or.inl (by decide)) D65_89 rfl).trans ?_
      refine (Q_bipush (v := 10) zm_65 (Or.inl (by decide)) D65_90 (by decide)).trans ?_
      refine (Q_putI zm_65 (Or.inl (by decide)) D65_92 zf_7_58 zs_7_5 rfl zk_2.1).trans ?_
      refine (Q_aload_n zm_65 (Or.inl (by decide)) D65_95 rfl).trans ?_
      refine (Q_dup zm_65 (Or.inl (by decide)) D65_96 rfl).trans ?_
      refine (Q_getI zm_65 (Or.inl (by decide)) D65_97 zf_7_46 (Or.inl zs_7_4) zk_2.1).trans ?_
      refine (Q_iconst (v := 1) zm_65 (Or.inl (by decide)) D65_100 (by decide)).trans ?_
      refine (Q_iadd zm_65 (Or.inl (by decide)) D65_101).trans ?_
      refine (Q_putI zm_65 (Or.inl (by decide)) D65_102 zf_7_46 zs_7_4 rfl zk_2.1).trans ?_
      refine (Q_goto (tgt := 147) zm_65 (Or.inl (by decide)) D65_105 (by decide)).trans ?_
      exact Q_return zm_65 (Or.inl (by decide)) D65_147 rfl

theorem b65_108 {d : Nat} {i1 : Int32} {i2 : Int32} {ia : Nat → Nat → Int32} {la : Nat → Nat → Int64} {pl dr : Nat} {cp : Option Nat} {cw : Option Nat} {rp : Option Nat} {K : Option Value → zHP → Prop}  : zWP (d + 1) 65 108 [some (.ref 2), some (.int i1), some (.int i2)] [] (ia, la, zRA pl dr cp cw rp) K = (if ¬ i1 = (62 : Int32) then zWM d 66 [.int i1] (ia, la, zRA pl dr cp cw rp) (zK (d + 1) 65 144 [some (.ref 2), some (.int i1), some (.int i2)] [.ref 2] K) else (if ¬ i2 = (61 : Int32) then zWM d 66 [.int i1] (ia, la, zRA pl dr cp cw rp) (zK (d + 1) 65 144 [some (.ref 2), some (.int i1), some (.int i2)] [.ref 2] K) else K none ((zu (zu ia 2 5 (11 : Int32)) 2 4 (((zu ia 2 5 (11 : Int32)) 2 4) + (1 : Int32))), la, zRA pl dr cp cw rp))) := by
  refine (Q_iload_n zm_65 (Or.inl (by decide)) D65_108 rfl).trans ?_
  refine (Q_bipush (v := 62) zm_65 (Or.inl (by decide)) D65_109 (by decide)).trans ?_
  refine (Q_ic_ne (tgt := 139) zm_65 (Or.inl (by decide)) D65_111 (by decide)).trans ?_
  refine zif_c (fun h0_ => ?_) (fun h0_ => ?_)
  · refine (Q_aload_n zm_65 (Or.inl (by decide)) D65_139 rfl).trans ?_
    refine (Q_iload_n zm_65 (Or.inl (by decide)) D65_140 rfl).trans ?_
    exact Q_calls (as := [.int i1]) (rest := [.ref 2]) zm_65 (Or.inl (by decide)) D65_141 zc_7_82 rfl (by decide) (by simp [zcat, Value.category]) zm_66 rfl
  · refine (Q_iload_n zm_65 (Or.inl (by decide)) D65_114 rfl).trans ?_
    refine (Q_bipush (v := 61) zm_65 (Or.inl (by decide)) D65_115 (by decide)).trans ?_
    refine (Q_ic_ne (tgt := 139) zm_65 (Or.inl (by decide)) D65_117 (by decide)).trans ?_
    refine zif_c (fun h1_ => ?_) (fun h1_ => ?_)
    · refine (Q_aload_n zm_65 (Or.inl (by decide)) D65_139 rfl).trans ?_
      refine (Q_iload_n zm_65 (Or.inl (by decide)) D65_140 rfl).trans ?_
      exact Q_calls (as := [.int i1]) (rest := [.ref 2]) zm_65 (Or.inl (by decide)) D65_141 zc_7_82 rfl (by decide) (by simp [zcat, Value.category]) zm_66 rfl
    · refine (Q_aload_n zm_65 (Or.inl (by decide)) D65_120 rfl).trans ?_
      refine (Q_bipush (v := 11) zm_65 (Or.inl (by decide)) D65_121 (by decide)).trans ?_
      refine (Q_putI zm_65 (Or.inl (by decide)) D65_123 zf_7_58 zs_7_5 rfl zk_2.1).trans ?_
      refine (Q_aload_n zm_65 (Or.inl (by decide)) D65_126 rfl).trans ?_
      refine (Q_dup zm_65 (Or.inl (by decide)) D65_127 rfl).trans ?_
      refine (Q_getI zm_65 (Or.inl (by decide)) D65_128 zf_7_46 (Or.inl zs_7_4) zk_2.1).trans ?_
      refine (Q_iconst (v := 1) zm_65 (Or.inl (by decide)) D65_131 (by decide)).trans ?_
      refine (Q_iadd zm_65 (Or.inl (by decide)) D65_132).trans ?_
      refine (Q_putI zm_65 (Or.inl (by decide)) D65_133 zf_7_46 zs_7_4 rfl zk_2.1).trans ?_
      refine (Q_goto (tgt := 147) zm_65 (Or.inl (by decide)) D65_136 (by decide)).trans ?_
      exact Q_return zm_65 (Or.inl (by decide)) D65_147 rfl

theorem b65_144 {d : Nat} {i1 : Int32} {i2 : Int32} {s1 : Int32} {ia : Nat → Nat → Int32} {la : Nat → Nat → Int64} {pl dr : Nat} {cp : Option Nat} {cw : Option Nat} {rp : Option Nat} {K : Option Value → zHP → Prop}  : zWP d 65 144 [some (.ref 2), some (.int i1), some (.int i2)] [.int s1, .ref 2] (ia, la, zRA pl dr cp cw rp) K = K none ((zu ia 2 5 s1), la, zRA pl dr cp cw rp) := by
  refine (Q_putI zm_65 (Or.inl (by decide)) D65_144 zf_7_58 zs_7_5 rfl zk_2.1).trans ?_
  exact Q_return zm_65 (Or.inl (by decide)) D65_147 rfl

/-! HandsLet$Tokens.kindOfSign(I)I -/
theorem D66_0 : decode prog_9_method_12_code 0 = .ok (.iload_n 0, 1) := by decide +kernel
theorem D66_1 : decode prog_9_method_12_code 1 = .ok (.tableswitch 135 40 62 #[109, 111, 129, 123, 135, 126, 135, 132, 135, 135, 135, 135, 135, 135, 135, 135, 135, 135, 135, 107, 114, 117, 120], 107) := by decide +kernel
theorem D66_108 : decode prog_9_method_12_code 108 = .ok (.iconst 4, 1) := by decide +kernel
theorem D66_109 : decode prog_9_method_12_code 109 = .ok (.ireturn, 1) := by decide +kernel
theorem D66_110 : decode prog_9_method_12_code 110 = .ok (.iconst 5, 1) := by decide +kernel
theorem D66_111 : decode prog_9_method_12_code 111 = .ok (.ireturn, 1) := by decide +kernel
theorem D66_112 : decode prog_9_method_12_code 112 = .ok (.bipush 6, 2) := by decide +kernel
theorem D66_114 : decode prog_9_method_12_code 114 = .ok (.ireturn, 1) := by decide +kernel
theorem D66_115 : decode prog_9_method_12_code 115 = .ok (.bipush 7, 2) := by decide +kernel
theorem D66_117 : decode prog_9_method_12_code 117 = .ok (.ireturn, 1) := by decide +kernel
theorem D66_118 : decode prog_9_method_12_code 118 = .ok (.bipush 9, 2) := by decide +kernel
theorem D66_120 : decode prog_9_method_12_code 120 = .ok (.ireturn, 1) := by decide +kernel
theorem D66_121 : decode prog_9_method_12_code 121 = .ok (.bipush 12, 2) := by decide +kernel
theorem D66_123 : decode prog_9_method_12_code 123 = .ok (.ireturn, 1) := by decide +kernel
theorem D66_124 : decode prog_9_method_12_code 124 = .ok (.bipush 13, 2) := by decide +kernel
theorem D66_126 : decode prog_9_method_12_code 126 = .ok (.ireturn, 1) := by decide +kernel
theorem D66_127 : decode prog_9_method_12_code 127 = .ok (.bipush 14, 2) := by decide +kernel
theorem D66_129 : decode prog_9_method_12_code 129 = .ok (.ireturn, 1) := by decide +kernel
theorem D66_130 : decode prog_9_method_12_code 130 = .ok (.bipush 15, 2) := by decide +kernel
theorem D66_132 : decode prog_9_method_12_code 132 = .ok (.ireturn, 1) := by decide +kernel
theorem D66_133 : decode prog_9_method_12_code 133 = .ok (.bipush 16, 2) := by decide +kernel
theorem D66_135 : decode prog_9_method_12_code 135 = .ok (.ireturn, 1) := by decide +kernel
theorem D66_136 : decode prog_9_method_12_code 136 = .ok (.iconst 1, 1) := by decide +kernel
theorem D66_137 : decode prog_9_method_12_code 137 = .ok (.ireturn, 1) := by decide +kernel

set_option maxRecDepth 20000 in
theorem b66_0 {d : Nat} {i0 : Int32} {ia : Nat → Nat → Int32} {la : Nat → Nat → Int64} {pl dr : Nat} {cp : Option Nat} {cw : Option Nat} {rp : Option Nat} {K : Option Value → zHP → Prop}  : zWP d 66 0 [some (.int i0)] [] (ia, la, zRA pl dr cp cw rp) K = (if i0 = 40 then K (some (.int (5 : Int32))) (ia, la, zRA pl dr cp cw rp) else (if i0 = 41 then K (some (.int (6 : Int32))) (ia, la, zRA pl dr cp cw rp) else (if i0 = 42 then K (some (.int (15 : Int32))) (ia, la, zRA pl dr cp cw rp) else (if i0 = 43 then K (some (.int (13 : Int32))) (ia, la, zRA pl dr cp cw rp) else (if i0 = 44 then K (some (.int (1 : Int32))) (ia, la, zRA pl dr cp cw rp) else (if i0 = 45 then K (some (.int (14 : Int32))) (ia, la, zRA pl dr cp cw rp) else (if i0 = 46 then K (some (.int (1 : Int32))) (ia, la, zRA pl dr cp cw rp) else (if i0 = 47 then K (some (.int (16 : Int32))) (ia, la, zRA pl dr cp cw rp) else (if i0 = 48 then K (some (.int (1 : Int32))) (ia, la, zRA pl dr cp cw rp) else (if i0 = 49 then K (some (.int (1 : Int32))) (ia, la, zRA pl dr cp cw rp) else (if i0 = 50 then K (some (.int (1 : Int32))) (ia, la, zRA pl dr cp cw rp) else (if i0 = 51 then K (some (.int (1 : Int32))) (ia, la, zRA pl dr cp cw rp) else (if i0 = 52 then K (some (.int (1 : Int32))) (ia, la, zRA pl dr cp cw rp) else (if i0 = 53 then K (some (.int (1 : Int32))) (ia, la, zRA pl dr cp cw rp) else (if i0 = 54 then K (some (.int (1 : Int32))) (ia, la, zRA pl dr cp cw rp) else (if i0 = 55 then K (some (.int (1 : Int32))) (ia, la, zRA pl dr cp cw rp) else (if i0 = 56 then K (some (.int (1 : Int32))) (ia, la, zRA pl dr cp cw rp) else (if i0 = 57 then K (some (.int (1 : Int32))) (ia, la, zRA pl dr cp cw rp) else (if i0 = 58 then K (some (.int (1 : Int32))) (ia, la, zRA pl dr cp cw rp) else (if i0 = 59 then K (some (.int (4 : Int32))) (ia, la, zRA pl dr cp cw rp) else (if i0 = 60 then K (some (.int (7 : Int32))) (ia, la, zRA pl dr cp cw rp) else (if i0 = 61 then K (some (.int (9 : Int32))) (ia, la, zRA pl dr cp cw rp) else (if i0 = 62 then K (some (.int (12 : Int32))) (ia, la, zRA pl dr cp cw rp) else K (some (.int (1 : Int32))) (ia, la, zRA pl dr cp cw rp)))))))))))))))))))))))) := by
  refine (Q_iload_n zm_66 (Or.inl (by decide)) D66_0 rfl).trans ?_
  by_cases h0_ : i0 = 40
  · rw [if_pos h0_]
    refine (congrArg (fun q => zWP d 66 1 [some (.int i0)] (.int q :: []) (ia, la, zRA pl dr cp cw rp) K) h0_).trans ?_
    refine (Q_tsw (tgt := 110) zm_66 (Or.inl (by decide)) D66_1 rfl (by decide)).trans ?_
    refine (Q_iconst (v := 5) zm_66 (Or.inl (by decide)) D66_110 (by decide)).trans ?_
    exact Q_ireturn zm_66 (Or.inl (by decide)) D66_111 rfl
  rw [if_neg h0_]
  by_cases h1_ : i0 = 41
  · rw [if_pos h1_]
    refine (congrArg (fun q => zWP d 66 1 [some (.int i0)] (.int q :: []) (ia, la, zRA pl dr cp cw rp) K) h1_).trans ?_
    refine (Q_tsw (tgt := 112) zm_66 (Or.inl (by decide)) D66_1 rfl (by decide)).trans ?_
    refine (Q_bipush (v := 6) zm_66 (Or.inl (by decide)) D66_112 (by decide)).trans ?_
    exact Q_ireturn zm_66 (Or.inl (by decide)) D66_114 rfl
  rw [if_neg h1_]
  by_cases h2_ : i0 = 42
  · rw [if_pos h2_]
    refine (congrArg (fun q => zWP d 66 1 [some (.int i0)] (.int q :: []) (ia, la, zRA pl dr cp cw rp) K) h2_).trans ?_
    refine (Q_tsw (tgt := 130) zm_66 (Or.inl (by decide)) D66_1 rfl (by decide)).trans ?_
    refine (Q_bipush (v := 15) zm_66 (Or.inl (by decide)) D66_130 (by decide)).trans ?_
    exact Q_ireturn zm_66 (Or.inl (by decide)) D66_132 rfl
  rw [if_neg h2_]
  by_cases h3_ : i0 = 43
  · rw [if_pos h3_]
    refine (congrArg (fun q => zWP d 66 1 [some (.int i0)] (.int q :: []) (ia, la, zRA pl dr cp cw rp) K) h3_).trans ?_
    refine (Q_tsw (tgt := 124) zm_66 (Or.inl (by decide)) D66_1 rfl (by decide)).trans ?_
    refine (Q_bipush (v := 13) zm_66 (Or.inl (by decide)) D66_124 (by decide)).trans ?_
    exact Q_ireturn zm_66 (Or.inl (by decide)) D66_126 rfl
  rw [if_neg h3_]
  by_cases h4_ : i0 = 44
  · rw [if_pos h4_]
    refine (congrArg (fun q => zWP d 66 1 [some (.int i0)] (.int q :: []) (ia, la, zRA pl dr cp cw rp) K) h4_).trans ?_
    refine (Q_tsw (tgt := 136) zm_66 (Or.inl (by decide)) D66_1 rfl (by decide)).trans ?_
    refine (Q_iconst (v := 1) zm_66 (Or.inl (by decide)) D66_136 (by decide)).trans ?_
    exact Q_ireturn zm_66 (Or.inl (by decide)) D66_137 rfl
  rw [if_neg h4_]
  by_cases h5_ : i0 = 45
  · rw [if_pos h5_]
    refine (congrArg (fun q => zWP d 66 1 [some (.int i0)] (.int q :: []) (ia, la, zRA pl dr cp cw rp) K) h5_).trans ?_
    refine (Q_tsw (tgt := 127) zm_66 (Or.inl (by decide)) D66_1 rfl (by decide)).trans ?_
    refine (Q_bipush (v := 14) zm_66 (Or.inl (by decide)) D66_127 (by decide)).trans ?_
    exact Q_ireturn zm_66 (Or.inl (by decide)) D66_129 rfl
  rw [if_neg h5_]
  by_cases h6_ : i0 = 46
  · rw [if_pos h6_]
    refine (congrArg (fun q => zWP d 66 1 [some (.int i0)] (.int q :: []) (ia, la, zRA pl dr cp cw rp) K) h6_).trans ?_
    refine (Q_tsw (tgt := 136) zm_66 (Or.inl (by decide)) D66_1 rfl (by decide)).trans ?_
    refine (Q_iconst (v := 1) zm_66 (Or.inl (by decide)) D66_136 (by decide)).trans ?_
    exact Q_ireturn zm_66 (Or.inl (by decide)) D66_137 rfl
  rw [if_neg h6_]
  by_cases h7_ : i0 = 47
  · rw [if_pos h7_]
    refine (congrArg (fun q => zWP d 66 1 [some (.int i0)] (.int q :: []) (ia, la, zRA pl dr cp cw rp) K) h7_).trans ?_
    refine (Q_tsw (tgt := 133) zm_66 (Or.inl (by decide)) D66_1 rfl (by decide)).trans ?_
    refine (Q_bipush (v := 16) zm_66 (Or.inl (by decide)) D66_133 (by decide)).trans ?_
    exact Q_ireturn zm_66 (Or.inl (by decide)) D66_135 rfl
  rw [if_neg h7_]
  by_cases h8_ : i0 = 48
  · rw [if_pos h8_]
    refine (congrArg (fun q => zWP d 66 1 [some (.int i0)] (.int q :: []) (ia, la, zRA pl dr cp cw rp) K) h8_).trans ?_
    refine (Q_tsw (tgt := 136) zm_66 (Or.inl (by decide)) D66_1 rfl (by decide)).trans ?_
    refine (Q_iconst (v := 1) zm_66 (Or.inl (by decide)) D66_136 (by decide)).trans ?_
    exact Q_ireturn zm_66 (Or.inl (by decide)) D66_137 rfl
  rw [if_neg h8_]
  by_cases h9_ : i0 = 49
  · rw [if_pos h9_]
    refine (congrArg (fun q => zWP d 66 1 [some (.int i0)] (.int q :: []) (ia, la, zRA pl dr cp cw rp) K) h9_).trans ?_
    refine (Q_tsw (tgt := 136) zm_66 (Or.inl (by decide)) D66_1 rfl (by decide)).trans ?_
    refine (Q_iconst (v := 1) zm_66 (Or.inl (by decide)) D66_136 (by decide)).trans ?_
    exact Q_ireturn zm_66 (Or.inl (by decide)) D66_137 rfl
  rw [if_neg h9_]
  by_cases h10_ : i0 = 50
  · rw [if_pos h10_]
    refine (congrArg (fun q => zWP d 66 1 [some (.int i0)] (.int q :: []) (ia, la, zRA pl dr cp cw rp) K) h10_).trans ?_
    refine (Q_tsw (tgt := 136) zm_66 (Or.inl (by decide)) D66_1 rfl (by decide)).trans ?_
    refine (Q_iconst (v := 1) zm_66 (Or.inl (by decide)) D66_136 (by decide)).trans ?_
    exact Q_ireturn zm_66 (Or.inl (by decide)) D66_137 rfl
  rw [if_neg h10_]
  by_cases h11_ : i0 = 51
  · rw [if_pos h11_]
    refine (congrArg (fun q => zWP d 66 1 [some (.int i0)] (.int q :: []) (ia, la, zRA pl dr cp cw rp) K) h11_).trans ?_
    refine (Q_tsw (tgt := 136) zm_66 (Or.inl (by decide)) D66_1 rfl (by decide)).trans ?_
    refine (Q_iconst (v := 1) zm_66 (Or.inl (by decide)) D66_136 (by decide)).trans ?_
    exact Q_ireturn zm_66 (Or.inl (by decide)) D66_137 rfl
  rw [if_neg h11_]
  by_cases h12_ : i0 = 52
  · rw [if_pos h12_]
    refine (congrArg (fun q => zWP d 66 1 [some (.int i0)] (.int q :: []) (ia, la, zRA pl dr cp cw rp) K) h12_).trans ?_
    refine (Q_tsw (tgt := 136) zm_66 (Or.inl (by decide)) D66_1 rfl (by decide)).trans ?_
    refine (Q_iconst (v := 1) zm_66 (Or.inl (by decide)) D66_136 (by decide)).trans ?_
    exact Q_ireturn zm_66 (Or.inl (by decide)) D66_137 rfl
  rw [if_neg h12_]
  by_cases h13_ : i0 = 53
  · rw [if_pos h13_]
    refine (congrArg (fun q => zWP d 66 1 [some (.int i0)] (.int q :: []) (ia, la, zRA pl dr cp cw rp) K) h13_).trans ?_
    refine (Q_tsw (tgt := 136) zm_66 (Or.inl (by decide)) D66_1 rfl (by decide)).trans ?_
    refine (Q_iconst (v := 1) zm_66 (Or.inl (by decide)) D66_136 (by decide)).trans ?_
    exact Q_ireturn zm_66 (Or.inl (by decide)) D66_137 rfl
  rw [if_neg h13_]
  by_cases h14_ : i0 = 54
  · rw [if_pos h14_]
    refine (congrArg (fun q => zWP d 66 1 [some (.int i0)] (.int q :: []) (ia, la, zRA pl dr cp cw rp) K) h14_).trans ?_
    refine (Q_tsw (tgt := 136) zm_66 (Or.inl (by decide)) D66_1 rfl (by decide)).trans ?_
    refine (Q_iconst (v := 1) zm_66 (Or.inl (by decide)) D66_136 (by decide)).trans ?_
    exact Q_ireturn zm_66 (Or.inl (by decide)) D66_137 rfl
  rw [if_neg h14_]
  by_cases h15_ : i0 = 55
  · rw [if_pos h15_]
    refine (congrArg (fun q => zWP d 66 1 [some (.int i0)] (.int q :: []) (ia, la, zRA pl dr cp cw rp) K) h15_).trans ?_
    refine (Q_tsw (tgt := 136) zm_66 (Or.inl (by decide)) D66_1 rfl (by decide)).trans ?_
    refine (Q_iconst (v := 1) zm_66 (Or.inl (by decide)) D66_136 (by decide)).trans ?_
    exact Q_ireturn zm_66 (Or.inl (by decide)) D66_137 rfl
  rw [if_neg h15_]
  by_cases h16_ : i0 = 56
  · rw [if_pos h16_]
    refine (congrArg (fun q => zWP d 66 1 [some (.int i0)] (.int q :: []) (ia, la, zRA pl dr cp cw rp) K) h16_).trans ?_
    refine (Q_tsw (tgt := 136) zm_66 (Or.inl (by decide)) D66_1 rfl (by decide)).trans ?_
    refine (Q_iconst (v := 1) zm_66 (Or.inl (by decide)) D66_136 (by decide)).trans ?_
    exact Q_ireturn zm_66 (Or.inl (by decide)) D66_137 rfl
  rw [if_neg h16_]
  by_cases h17_ : i0 = 57
  · rw [if_pos h17_]
    refine (congrArg (fun q => zWP d 66 1 [some (.int i0)] (.int q :: []) (ia, la, zRA pl dr cp cw rp) K) h17_).trans ?_
    refine (Q_tsw (tgt := 136) zm_66 (Or.inl (by decide)) D66_1 rfl (by decide)).trans ?_
    refine (Q_iconst (v := 1) zm_66 (Or.inl (by decide)) D66_136 (by decide)).trans ?_
    exact Q_ireturn zm_66 (Or.inl (by decide)) D66_137 rfl
  rw [if_neg h17_]
  by_cases h18_ : i0 = 58
  · rw [if_pos h18_]
    refine (congrArg (fun q => zWP d 66 1 [some (.int i0)] (.int q :: []) (ia, la, zRA pl dr cp cw rp) K) h18_).trans ?_
    refine (Q_tsw (tgt := 136) zm_66 (Or.inl (by decide)) D66_1 rfl (by decide)).trans ?_
    refine (Q_iconst (v := 1) zm_66 (Or.inl (by decide)) D66_136 (by decide)).trans ?_
    exact Q_ireturn zm_66 (Or.inl (by decide)) D66_137 rfl
  rw [if_neg h18_]
  by_cases h19_ : i0 = 59
  · rw [if_pos h19_]
    refine (congrArg (fun q => zWP d 66 1 [some (.int i0)] (.int q :: []) (ia, la, zRA pl dr cp cw rp) K) h19_).trans ?_
    refine (Q_tsw (tgt := 108) zm_66 (Or.inl (by decide)) D66_1 rfl (by decide)).trans ?_
    refine (Q_iconst (v := 4) zm_66 (Or.inl (by decide)) D66_108 (by decide)).trans ?_
    exact Q_ireturn zm_66 (Or.inl (by decide)) D66_109 rfl
  rw [if_neg h19_]
  by_cases h20_ : i0 = 60
  · rw [if_pos h20_]
    refine (congrArg (fun q => zWP d 66 1 [some (.int i0)] (.int q :: []) (ia, la, zRA pl dr cp cw rp) K) h20_).trans ?_
    refine (Q_tsw (tgt := 115) zm_66 (Or.inl (by decide)) D66_1 rfl (by decide)).trans ?_
    refine (Q_bipush (v := 7) zm_66 (Or.inl (by decide)) D66_115 (by decide)).trans ?_
    exact Q_ireturn zm_66 (Or.inl (by decide)) D66_117 rfl
  rw [if_neg h20_]
  by_cases h21_ : i0 = 61
  · rw [if_pos h21_]
    refine (congrArg (fun q => zWP d 66 1 [some (.int i0)] (.int q :: []) (ia, la, zRA pl dr cp cw rp) K) h21_).trans ?_
    refine (Q_tsw (tgt := 118) zm_66 (Or.inl (by decide)) D66_1 rfl (by decide)).trans ?_
    refine (Q_bipush (v := 9) zm_66 (Or.inl (by decide)) D66_118 (by decide)).trans ?_
    exact Q_ireturn zm_66 (Or.inl (by decide)) D66_120 rfl
  rw [if_neg h21_]
  by_cases h22_ : i0 = 62
  · rw [if_pos h22_]
    refine (congrArg (fun q => zWP d 66 1 [some (.int i0)] (.int q :: []) (ia, la, zRA pl dr cp cw rp) K) h22_).trans ?_
    refine (Q_tsw (tgt := 121) zm_66 (Or.inl (by decide)) D66_1 rfl (by decide)).trans ?_
    refine (Q_bipush (v := 12) zm_66 (Or.inl (by decide)) D66_121 (by decide)).trans ?_
    exact Q_ireturn zm_66 (Or.inl (by decide)) D66_123 rfl
  rw [if_neg h22_]
  refine (Q_tsw (tgt := 136) zm_66 (Or.inl (by decide)) D66_1 (zsw_out (n := 23) (by decide) (fun q hq => ?_)) (by decide)).trans ?_
  · rcases (show q = 0 ∨ q = 1 ∨ q = 2 ∨ q = 3 ∨ q = 4 ∨ q = 5 ∨ q = 6 ∨ q = 7 ∨ q = 8 ∨ q = 9 ∨ q = 10 ∨ q = 11 ∨ q = 12 ∨ q = 13 ∨ q = 14 ∨ q = 15 ∨ q = 16 ∨ q = 17 ∨ q = 18 ∨ q = 19 ∨ q = 20 ∨ q = 21 ∨ q = 22 by omega) with rfl | rfl | rfl | rfl | rfl | rfl | rfl | rfl | rfl | rfl | rfl | rfl | rfl | rfl | rfl | rfl | rfl | rfl | rfl | rfl | rfl | rfl | rfl
    · exact h0_
    · exact h1_
    · exact h2_
    · exact h3_
    · exact h4_
    · exact h5_
    · exact h6_
    · exact h7_
    · exact h8_
    · exact h9_
    · exact h10_
    · exact h11_
    · exact h12_
    · exact h13_
    · exact h14_
    · exact h15_
    · exact h16_
    · exact h17_
    · exact h18_
    · exact h19_
    · exact h20_
    · exact h21_
    · exact h22_
  refine (Q_iconst (v := 1) zm_66 (Or.inl (by decide)) D66_136 (by decide)).trans ?_
  exact Q_ireturn zm_66 (Or.inl (by decide)) D66_137 rfl

/-! HandsLet$World.begin(LHandsLet$Plan;)V -/
theorem D67_0 : decode prog_10_method_2_code 0 = .ok (.aload_n 0, 1) := by decide +kernel
theorem D67_1 : decode prog_10_method_2_code 1 = .ok (.iconst 0, 1) := by decide +kernel
theorem D67_2 : decode prog_10_method_2_code 2 = .ok (.putfield 39, 3) := by decide +kernel
theorem D67_5 : decode prog_10_method_2_code 5 = .ok (.aload_n 0, 1) := by decide +kernel
theorem D67_6 : decode prog_10_method_2_code 6 = .ok (.aload_n 1, 1) := by decide +kernel
theorem D67_7 : decode prog_10_method_2_code 7 = .ok (.getfield 43, 3) := by decide +kernel
theorem D67_10 : decode prog_10_method_2_code 10 = .ok (.iconst 2, 1) := by decide +kernel
theorem D67_11 : decode prog_10_method_2_code 11 = .ok (.iaload, 1) := by decide +kernel
theorem D67_12 : decode prog_10_method_2_code 12 = .ok (.i2l, 1) := by decide +kernel
theorem D67_13 : decode prog_10_method_2_code 13 = .ok (.putfield 48, 3) := by decide +kernel
theorem D67_16 : decode prog_10_method_2_code 16 = .ok (.iconst 0, 1) := by decide +kernel
theorem D67_17 : decode prog_10_method_2_code 17 = .ok (.istore_n 2, 1) := by decide +kernel
theorem D67_18 : decode prog_10_method_2_code 18 = .ok (.iload_n 2, 1) := by decide +kernel
theorem D67_19 : decode prog_10_method_2_code 19 = .ok (.bipush 6, 2) := by decide +kernel
theorem D67_21 : decode prog_10_method_2_code 21 = .ok (.if_icmp .ge 55, 3) := by decide +kernel
theorem D67_24 : decode prog_10_method_2_code 24 = .ok (.aload_n 0, 1) := by decide +kernel
theorem D67_25 : decode prog_10_method_2_code 25 = .ok (.getfield 9, 3) := by decide +kernel
theorem D67_28 : decode prog_10_method_2_code 28 = .ok (.iload_n 2, 1) := by decide +kernel
theorem D67_29 : decode prog_10_method_2_code 29 = .ok (.iload_n 2, 1) := by decide +kernel
theorem D67_30 : decode prog_10_method_2_code 30 = .ok (.aload_n 1, 1) := by decide +kernel
theorem D67_31 : decode prog_10_method_2_code 31 = .ok (.getfield 52, 3) := by decide +kernel
theorem D67_34 : decode prog_10_method_2_code 34 = .ok (.if_icmp .ge 12, 3) := by decide +kernel
theorem D67_37 : decode prog_10_method_2_code 37 = .ok (.aload_n 1, 1) := by decide +kernel
theorem D67_38 : decode prog_10_method_2_code 38 = .ok (.getfield 55, 3) := by decide +kernel
theorem D67_41 : decode prog_10_method_2_code 41 = .ok (.iload_n 2, 1) := by decide +kernel
theorem D67_42 : decode prog_10_method_2_code 42 = .ok (.iaload, 1) := by decide +kernel
theorem D67_43 : decode prog_10_method_2_code 43 = .ok (.goto 4, 3) := by decide +kernel
theorem D67_46 : decode prog_10_method_2_code 46 = .ok (.iconst 0, 1) := by decide +kernel
theorem D67_47 : decode prog_10_method_2_code 47 = .ok (.iastore, 1) := by decide +kernel
theorem D67_48 : decode prog_10_method_2_code 48 = .ok (.aload_n 0, 1) := by decide +kernel
theorem D67_49 : decode prog_10_method_2_code 49 = .ok (.getfield 18, 3) := by decide +kernel
theorem D67_52 : decode prog_10_method_2_code 52 = .ok (.iload_n 2, 1) := by decide +kernel
theorem D67_53 : decode prog_10_method_2_code 53 = .ok (.bipush (-2), 2) := by decide +kernel
theorem D67_55 : decode prog_10_method_2_code 55 = .ok (.iastore, 1) := by decide +kernel
theorem D67_56 : decode prog_10_method_2_code 56 = .ok (.aload_n 0, 1) := by decide +kernel
theorem D67_57 : decode prog_10_method_2_code 57 = .ok (.getfield 21, 3) := by decide +kernel
theorem D67_60 : decode prog_10_method_2_code 60 = .ok (.iload_n 2, 1) := by decide +kernel
theorem D67_61 : decode prog_10_method_2_code 61 = .ok (.iconst 0, 1) := by decide +kernel
theorem D67_62 : decode prog_10_method_2_code 62 = .ok (.iastore, 1) := by decide +kernel
theorem D67_63 : decode prog_10_method_2_code 63 = .ok (.aload_n 0, 1) := by decide +kernel
theorem D67_64 : decode prog_10_method_2_code 64 = .ok (.getfield 24, 3) := by decide +kernel
theorem D67_67 : decode prog_10_method_2_code 67 = .ok (.iload_n 2, 1) := by decide +kernel
theorem D67_68 : decode prog_10_method_2_code 68 = .ok (.iconst 0, 1) := by decide +kernel
theorem D67_69 : decode prog_10_method_2_code 69 = .ok (.iastore, 1) := by decide +kernel
theorem D67_70 : decode prog_10_method_2_code 70 = .ok (.iinc 2 1, 3) := by decide +kernel
theorem D67_73 : decode prog_10_method_2_code 73 = .ok (.goto (-55), 3) := by decide +kernel
theorem D67_76 : decode prog_10_method_2_code 76 = .ok (.iconst 0, 1) := by decide +kernel
theorem D67_77 : decode prog_10_method_2_code 77 = .ok (.istore_n 2, 1) := by decide +kernel
theorem D67_78 : decode prog_10_method_2_code 78 = .ok (.iload_n 2, 1) := by decide +kernel
theorem D67_79 : decode prog_10_method_2_code 79 = .ok (.aload_n 1, 1) := by decide +kernel
theorem D67_80 : decode prog_10_method_2_code 80 = .ok (.getfield 52, 3) := by decide +kernel
theorem D67_83 : decode prog_10_method_2_code 83 = .ok (.iconst 3, 1) := by decide +kernel
theorem D67_84 : decode prog_10_method_2_code 84 = .ok (.imul, 1) := by decide +kernel
theorem D67_85 : decode prog_10_method_2_code 85 = .ok (.if_icmp .ge 25, 3) := by decide +kernel
theorem D67_88 : decode prog_10_method_2_code 88 = .ok (.aload_n 0, 1) := by decide +kernel
theorem D67_89 : decode prog_10_method_2_code 89 = .ok (.getfield 15, 3) := by decide +kernel
theorem D67_92 : decode prog_10_method_2_code 92 = .ok (.iload_n 2, 1) := by decide +kernel
theorem D67_93 : decode prog_10_method_2_code 93 = .ok (.sipush 1000, 3) := by decide +kernel
theorem D67_96 : decode prog_10_method_2_code 96 = .ok (.aload_n 1, 1) := by decide +kernel
theorem D67_97 : decode prog_10_method_2_code 97 = .ok (.getfield 56, 3) := by decide +kernel
theorem D67_100 : decode prog_10_method_2_code 100 = .ok (.iload_n 2, 1) := by decide +kernel
theorem D67_101 : decode prog_10_method_2_code 101 = .ok (.iaload, 1) := by decide +kernel
theorem D67_102 : decode prog_10_method_2_code 102 = .ok (.imul, 1) := by decide +kernel
theorem D67_103 : decode prog_10_method_2_code 103 = .ok (.iastore, 1) := by decide +kernel
theorem D67_104 : decode prog_10_method_2_code 104 = .ok (.iinc 2 1, 3) := by decide +kernel
theorem D67_107 : decode prog_10_method_2_code 107 = .ok (.goto (-29), 3) := by decide +kernel
theorem D67_110 : decode prog_10_method_2_code 110 = .ok (.iconst 0, 1) := by decide +kernel
theorem D67_111 : decode prog_10_method_2_code 111 = .ok (.istore_n 2, 1) := by decide +kernel
theorem D67_112 : decode prog_10_method_2_code 112 = .ok (.iload_n 2, 1) := by decide +kernel
theorem D67_113 : decode prog_10_method_2_code 113 = .ok (.bipush 12, 2) := by decide +kernel
theorem D67_115 : decode prog_10_method_2_code 115 = .ok (.if_icmp .ge 30, 3) := by decide +kernel
theorem D67_118 : decode prog_10_method_2_code 118 = .ok (.aload_n 0, 1) := by decide +kernel
theorem D67_119 : decode prog_10_method_2_code 119 = .ok (.getfield 27, 3) := by decide +kernel
theorem D67_122 : decode prog_10_method_2_code 122 = .ok (.iload_n 2, 1) := by decide +kernel
theorem D67_123 : decode prog_10_method_2_code 123 = .ok (.iconst 0, 1) := by decide +kernel
theorem D67_124 : decode prog_10_method_2_code 124 = .ok (.iastore, 1) := by decide +kernel
theorem D67_125 : decode prog_10_method_2_code 125 = .ok (.aload_n 0, 1) := by decide +kernel
theorem D67_126 : decode prog_10_method_2_code 126 = .ok (.getfield 30, 3) := by decide +kernel
theorem D67_129 : decode prog_10_method_2_code 129 = .ok (.iload_n 2, 1) := by decide +kernel
theorem D67_130 : decode prog_10_method_2_code 130 = .ok (.iconst 0, 1) := by decide +kernel
theorem D67_131 : decode prog_10_method_2_code 131 = .ok (.iastore, 1) := by decide +kernel
theorem D67_132 : decode prog_10_method_2_code 132 = .ok (.aload_n 0, 1) := by decide +kernel
theorem D67_133 : decode prog_10_method_2_code 133 = .ok (.getfield 33, 3) := by decide +kernel
theorem D67_136 : decode prog_10_method_2_code 136 = .ok (.iload_n 2, 1) := by decide +kernel
theorem D67_137 : decode prog_10_method_2_code 137 = .ok (.iconst 0, 1) := by decide +kernel
theorem D67_138 : decode prog_10_method_2_code 138 = .ok (.iastore, 1) := by decide +kernel
theorem D67_139 : decode prog_10_method_2_code 139 = .ok (.iinc 2 1, 3) := by decide +kernel
theorem D67_142 : decode prog_10_method_2_code 142 = .ok (.goto (-30), 3) := by decide +kernel
theorem D67_145 : decode prog_10_method_2_code 145 = .ok (.aload_n 0, 1) := by decide +kernel
theorem D67_146 : decode prog_10_method_2_code 146 = .ok (.iconst 0, 1) := by decide +kernel
theorem D67_147 : decode prog_10_method_2_code 147 = .ok (.putfield 57, 3) := by decide +kernel
theorem D67_150 : decode prog_10_method_2_code 150 = .ok (.aload_n 0, 1) := by decide +kernel
theorem D67_151 : decode prog_10_method_2_code 151 = .ok (.iconst 0, 1) := by decide +kernel
theorem D67_152 : decode prog_10_method_2_code 152 = .ok (.putfield 60, 3) := by decide +kernel
theorem D67_155 : decode prog_10_method_2_code 155 = .ok (.aload_n 0, 1) := by decide +kernel
theorem D67_156 : decode prog_10_method_2_code 156 = .ok (.iconst 0, 1) := by decide +kernel
theorem D67_157 : decode prog_10_method_2_code 157 = .ok (.putfield 63, 3) := by decide +kernel
theorem D67_160 : decode prog_10_method_2_code 160 = .ok (.aload_n 0, 1) := by decide +kernel
theorem D67_161 : decode prog_10_method_2_code 161 = .ok (.iconst 0, 1) := by decide +kernel
theorem D67_162 : decode prog_10_method_2_code 162 = .ok (.putfield 66, 3) := by decide +kernel
theorem D67_165 : decode prog_10_method_2_code 165 = .ok (.return_, 1) := by decide +kernel

theorem b67_0 {d : Nat} {w0 : Nat} {p1 : Nat} {ia : Nat → Nat → Int32} {la : Nat → Nat → Int64} {pl dr : Nat} {cp : Option Nat} {cw : Option Nat} {rp : Option Nat} {K : Option Value → zHP → Prop} (hw0 : zIsW w0) (hp1 : zIsP p1) : zWP d 67 0 [some (.ref w0), some (.ref p1), none] [] (ia, la, zRA pl dr cp cw rp) K = zWP d 67 18 [some (.ref w0), some (.ref p1), some (.int (0 : Int32))] [] ((zu ia w0 0 (0 : Int32)), (zu la w0 1 (((zu ia w0 0 (0 : Int32)) (p1 + 28) 2)).toInt64), zRA pl dr cp cw rp) K := by
  refine (Q_aload_n zm_67 (Or.inl (by decide)) D67_0 rfl).trans ?_
  refine (Q_iconst (v := 0) zm_67 (Or.inl (by decide)) D67_1 (by decide)).trans ?_
  refine (Q_putI zm_67 (Or.inl (by decide)) D67_2 zf_8_39 zs_8_0 rfl (zkw_0 hw0).1).trans ?_
  refine (Q_aload_n zm_67 (Or.inl (by decide)) D67_5 rfl).trans ?_
  refine (Q_aload_n zm_67 (Or.inl (by decide)) D67_6 rfl).trans ?_
  refine (Q_getR (q := (p1 + 28)) zm_67 (Or.inl (by decide)) D67_7 zf_8_43 zs_3_10 (zkp_0 hp1).1 (zrp_10 hp1)).trans ?_
  refine (Q_iconst (v := 2) zm_67 (Or.inl (by decide)) D67_10 (by decide)).trans ?_
  refine ((Q_iaload zm_67 (Or.inl (by decide)) D67_11 (zkp_28 hp1).1 (zkp_28 hp1).2).trans (zdrop (zin_spec (by decide)))).trans ?_
  refine (Q_i2l zm_67 (Or.inl (by decide)) D67_12).trans ?_
  refine (Q_putJ zm_67 (Or.inl (by decide)) D67_13 zf_8_48 zs_8_1 rfl (zkw_0 hw0).1).trans ?_
  refine (Q_iconst (v := 0) zm_67 (Or.inl (by decide)) D67_16 (by decide)).trans ?_
  refine (Q_istore_n (ls' := [some (.ref w0), some (.ref p1), some (.int (0 : Int32))]) zm_67 (Or.inl (by decide)) D67_17 rfl (Nat.le_of_ble_eq_true rfl) rfl).trans ?_
  rfl

theorem b67_18 {d : Nat} {w0 : Nat} {p1 : Nat} {i2 : Int32} {ia : Nat → Nat → Int32} {la : Nat → Nat → Int64} {pl dr : Nat} {cp : Option Nat} {cw : Option Nat} {rp : Option Nat} {K : Option Value → zHP → Prop} (hw0 : zIsW w0) (hp1 : zIsP p1) : zWP d 67 18 [some (.ref w0), some (.ref p1), some (.int i2)] [] (ia, la, zRA pl dr cp cw rp) K = (if (6 : Int32) ≤ i2 then zWP d 67 78 [some (.ref w0), some (.ref p1), some (.int (0 : Int32))] [] (ia, la, zRA pl dr cp cw rp) K else (if (ia p1 1) ≤ i2 then zWP d 67 47 [some (.ref w0), some (.ref p1), some (.int i2)] [.int (0 : Int32), .int i2, .ref (w0 + 1)] (ia, la, zRA pl dr cp cw rp) K else (vp_in i2 6 ∧ zWP d 67 47 [some (.ref w0), some (.ref p1), some (.int i2)] [.int (ia (p1 + 3) (i2).toNatClampNeg), .int i2, .ref (w0 + 1)] (ia, la, zRA pl dr cp cw rp) K))) := by
  refine (Q_iload_n zm_67 (Or.inl (by decide)) D67_18 rfl).trans ?_
  refine (Q_bipush (v := 6) zm_67 (Or.inl (by decide)) D67_19 (by decide)).trans ?_
  refine (Q_ic_ge (tgt := 76) zm_67 (Or.inl (by decide)) D67_21 (by decide)).trans ?_
  refine zif_c (fun h0_ => ?_) (fun h0_ => ?_)
  · refine (Q_iconst (v := 0) zm_67 (Or.inl (by decide)) D67_76 (by decide)).trans ?_
    refine (Q_istore_n (ls' := [some (.ref w0), some (.ref p1), some (.int (0 : Int32))]) zm_67 (Or.inl (by decide)) D67_77 rfl (Nat.le_of_ble_eq_true rfl) rfl).trans ?_
    rfl
  · refine (Q_aload_n zm_67 (Or.inl (by decide)) D67_24 rfl).trans ?_
    refine (Q_getR (q := (w0 + 1)) zm_67 (Or.inl (by decide)) D67_25 zf_8_9 zs_8_2 (zkw_0 hw0).1 (zrw_2 hw0)).trans ?_
    refine (Q_iload_n zm_67 (Or.inl (by decide)) D67_28 rfl).trans ?_
    refine (Q_iload_n zm_67 (Or.inl (by decide)) D67_29 rfl).trans ?_
    refine (Q_aload_n zm_67 (Or.inl (by decide)) D67_30 rfl).trans ?_
    refine (Q_getI zm_67 (Or.inl (by decide)) D67_31 zf_8_52 (Or.inl zs_3_1) (zkp_0 hp1).1).trans ?_
    refine (Q_ic_ge (tgt := 46) zm_67 (Or.inl (by decide)) D67_34 (by decide)).trans ?_
    refine zif_c (fun h1_ => ?_) (fun h1_ => ?_)
    · refine (Q_iconst (v := 0) zm_67 (Or.inl (by decide)) D67_46 (by decide)).trans ?_
      rfl
    · refine (Q_aload_n zm_67 (Or.inl (by decide)) D67_37 rfl).trans ?_
      refine (Q_getR (q := (p1 + 3)) zm_67 (Or.inl (by decide)) D67_38 zf_8_55 zs_3_7 (zkp_0 hp1).1 (zrp_7 hp1)).trans ?_
      refine (Q_iload_n zm_67 (Or.inl (by decide)) D67_41 rfl).trans ?_
      refine (Q_iaload zm_67 (Or.inl (by decide)) D67_42 (zkp_3 hp1).1 (zkp_3 hp1).2).trans ?_
      refine zand_c (fun h2_ => ?_)
      refine (Q_goto (tgt := 47) zm_67 (Or.inl (by decide)) D67_43 (by decide)).trans ?_
      rfl

theorem b67_78 {d : Nat} {w0 : Nat} {p1 : Nat} {i2 : Int32} {ia : Nat → Nat → Int32} {la : Nat → Nat → Int64} {pl dr : Nat} {cp : Option Nat} {cw : Option Nat} {rp : Option Nat} {K : Option Value → zHP → Prop} (hw0 : zIsW w0) (hp1 : zIsP p1) : zWP d 67 78 [some (.ref w0), some (.ref p1), some (.int i2)] [] (ia, la, zRA pl dr cp cw rp) K = (if ((ia p1 1) * (3 : Int32)) ≤ i2 then zWP d 67 112 [some (.ref w0), some (.ref p1), some (.int (0 : Int32))] [] (ia, la, zRA pl dr cp cw rp) K else (vp_in i2 18 ∧ zWP d 67 78 [some (.ref w0), some (.ref p1), some (.int (i2 + (1 : Int32)))] [] ((zu ia (w0 + 2) (i2).toNatClampNeg ((1000 : Int32) * (ia (p1 + 2) (i2).toNatClampNeg))), la, zRA pl dr cp cw rp) K)) := by
  refine (Q_iload_n zm_67 (Or.inl (by decide)) D67_78 rfl).trans ?_
  refine (Q_aload_n zm_67 (Or.inl (by decide)) D67_79 rfl).trans ?_
  refine (Q_getI zm_67 (Or.inl (by decide)) D67_80 zf_8_52 (Or.inl zs_3_1) (zkp_0 hp1).1).trans ?_
  refine (Q_iconst (v := 3) zm_67 (Or.inl (by decide)) D67_83 (by decide)).trans ?_
  refine (Q_imul zm_67 (Or.inl (by decide)) D67_84).trans ?_
  refine (Q_ic_ge (tgt := 110) zm_67 (Or.inl (by decide)) D67_85 (by decide)).trans ?_
  refine zif_c (fun h0_ => ?_) (fun h0_ => ?_)
  · refine (Q_iconst (v := 0) zm_67 (Or.inl (by decide)) D67_110 (by decide)).trans ?_
    refine (Q_istore_n (ls' := [some (.ref w0), some (.ref p1), some (.int (0 : Int32))]) zm_67 (Or.inl (by decide)) D67_111 rfl (Nat.le_of_ble_eq_true rfl) rfl).trans ?_
    rfl
  · refine (Q_aload_n zm_67 (Or.inl (by decide)) D67_88 rfl).trans ?_
    refine (Q_getR (q := (w0 + 2)) zm_67 (Or.inl (by decide)) D67_89 zf_8_15 zs_8_3 (zkw_0 hw0).1 (zrw_3 hw0)).trans ?_
    refine (Q_iload_n zm_67 (Or.inl (by decide)) D67_92 rfl).trans ?_
    refine (Q_sipush (v := 1000) zm_67 (Or.inl (by decide)) D67_93 (by decide)).trans ?_
    refine (Q_aload_n zm_67 (Or.inl (by decide)) D67_96 rfl).trans ?_
    refine (Q_getR (q := (p1 + 2)) zm_67 (Or.inl (by decide)) D67_97 zf_8_56 zs_3_6 (zkp_0 hp1).1 (zrp_6 hp1)).trans ?_
    refine (Q_iload_n zm_67 (Or.inl (by decide)) D67_100 rfl).trans ?_
    refine (Q_iaload zm_67 (Or.inl (by decide)) D67_101 (zkp_2 hp1).1 (zkp_2 hp1).2).trans ?_
    refine zand_c (fun h1_ => ?_)
    refine (Q_imul zm_67 (Or.inl (by decide)) D67_102).trans ?_
    refine ((Q_iastore zm_67 (Or.inl (by decide)) D67_103 (zkw_2 hw0).1 (zkw_2 hw0).2).trans (zdrop h1_)).trans ?_
    refine (Q_iinc (v := 1) (ls' := [some (.ref w0), some (.ref p1), some (.int (i2 + (1 : Int32)))]) zm_67 (Or.inl (by decide)) D67_104 rfl rfl (by decide) rfl).trans ?_
    refine (Q_goto (tgt := 78) zm_67 (Or.inl (by decide)) D67_107 (by decide)).trans ?_
    rfl

theorem b67_47 {d : Nat} {w0 : Nat} {p1 : Nat} {i2 : Int32} {q0 : Nat} {s1 : Int32} {s2 : Int32} {ia : Nat → Nat → Int32} {la : Nat → Nat → Int64} {pl dr : Nat} {cp : Option Nat} {cw : Option Nat} {rp : Option Nat} {K : Option Value → zHP → Prop} (hw0 : zIsW w0) (hp1 : zIsP p1) : zWP d 67 47 [some (.ref w0), some (.ref p1), some (.int i2)] [.int s2, .int s1, .ref q0] (ia, la, zRA pl dr cp cw rp) K = ((zkd q0 = 100 ∧ vp_in s1 (zln q0)) ∧ (vp_in i2 6 ∧ zWP d 67 18 [some (.ref w0), some (.ref p1), some (.int (i2 + (1 : Int32)))] [] ((zu (zu (zu (zu ia q0 (s1).toNatClampNeg s2) (w0 + 3) (i2).toNatClampNeg (-2 : Int32)) (w0 + 4) (i2).toNatClampNeg (0 : Int32)) (w0 + 5) (i2).toNatClampNeg (0 : Int32)), la, zRA pl dr cp cw rp) K)) := by
  refine (Q_iastoreV zm_67 (Or.inl (by decide)) D67_47).trans ?_
  refine zand_c (fun h0_ => ?_)
  refine (Q_aload_n zm_67 (Or.inl (by decide)) D67_48 rfl).trans ?_
  refine (Q_getR (q := (w0 + 3)) zm_67 (Or.inl (by decide)) D67_49 zf_8_18 zs_8_4 (zkw_0 hw0).1 (zrw_4 hw0)).trans ?_
  refine (Q_iload_n zm_67 (Or.inl (by decide)) D67_52 rfl).trans ?_
  refine (Q_bipush (v := -2) zm_67 (Or.inl (by decide)) D67_53 (by decide)).trans ?_
  refine (Q_iastore zm_67 (Or.inl (by decide)) D67_55 (zkw_3 hw0).1 (zkw_3 hw0).2).trans ?_
  refine zand_c (fun h1_ => ?_)
  refine (Q_aload_n zm_67 (Or.inl (by decide)) D67_56 rfl).trans ?_
  refine (Q_getR (q := (w0 + 4)) zm_67 (Or.inl (by decide)) D67_57 zf_8_21 zs_8_5 (zkw_0 hw0).1 (zrw_5 hw0)).trans ?_
  refine (Q_iload_n zm_67 (Or.inl (by decide)) D67_60 rfl).trans ?_
  refine (Q_iconst (v := 0) zm_67 (Or.inl (by decide)) D67_61 (by decide)).trans ?_
  refine ((Q_iastore zm_67 (Or.inl (by decide)) D67_62 (zkw_4 hw0).1 (zkw_4 hw0).2).trans (zdrop h1_)).trans ?_
  refine (Q_aload_n zm_67 (Or.inl (by decide)) D67_63 rfl).trans ?_
  refine (Q_getR (q := (w0 + 5)) zm_67 (Or.inl (by decide)) D67_64 zf_8_24 zs_8_6 (zkw_0 hw0).1 (zrw_6 hw0)).trans ?_
  refine (Q_iload_n zm_67 (Or.inl (by decide)) D67_67 rfl).trans ?_
  refine (Q_iconst (v := 0) zm_67 (Or.inl (by decide)) D67_68 (by decide)).trans ?_
  refine ((Q_iastore zm_67 (Or.inl (by decide)) D67_69 (zkw_5 hw0).1 (zkw_5 hw0).2).trans (zdrop h1_)).trans ?_
  refine (Q_iinc (v := 1) (ls' := [some (.ref w0), some (.ref p1), some (.int (i2 + (1 : Int32)))]) zm_67 (Or.inl (by decide)) D67_70 rfl rfl (by decide) rfl).trans ?_
  refine (Q_goto (tgt := 18) zm_67 (Or.inl (by decide)) D67_73 (by decide)).trans ?_
  rfl

theorem b67_112 {d : Nat} {w0 : Nat} {p1 : Nat} {i2 : Int32} {ia : Nat → Nat → Int32} {la : Nat → Nat → Int64} {pl dr : Nat} {cp : Option Nat} {cw : Option Nat} {rp : Option Nat} {K : Option Value → zHP → Prop} (hw0 : zIsW w0) (hp1 : zIsP p1) : zWP d 67 112 [some (.ref w0), some (.ref p1), some (.int i2)] [] (ia, la, zRA pl dr cp cw rp) K = (if (12 : Int32) ≤ i2 then K none ((zu (zu (zu (zu ia w0 11 (0 : Int32)) w0 12 (0 : Int32)) w0 13 (0 : Int32)) w0 14 (0 : Int32)), la, zRA pl dr cp cw rp) else (vp_in i2 12 ∧ zWP d 67 112 [some (.ref w0), some (.ref p1), some (.int (i2 + (1 : Int32)))] [] ((zu (zu (zu ia (w0 + 6) (i2).toNatClampNeg (0 : Int32)) (w0 + 7) (i2).toNatClampNeg (0 : Int32)) (w0 + 8) (i2).toNatClampNeg (0 : Int32)), la, zRA pl dr cp cw rp) K)) := by
  refine (Q_iload_n zm_67 (Or.inl (by decide)) D67_112 rfl).trans ?_
  refine (Q_bipush (v := 12) zm_67 (Or.inl (by decide)) D67_113 (by decide)).trans ?_
  refine (Q_ic_ge (tgt := 145) zm_67 (Or.inl (by decide)) D67_115 (by decide)).trans ?_
  refine zif_c (fun h0_ => ?_) (fun h0_ => ?_)
  · refine (Q_aload_n zm_67 (Or.inl (by decide)) D67_145 rfl).trans ?_
    refine (Q_iconst (v := 0) zm_67 (Or.inl (by decide)) D67_146 (by decide)).trans ?_
    refine (Q_putI zm_67 (Or.inl (by decide)) D67_147 zf_8_57 zs_8_11 rfl (zkw_0 hw0).1).trans ?_
    refine (Q_aload_n zm_67 (Or.inl (by decide)) D67_150 rfl).trans ?_
    refine (Q_iconst (v := 0) zm_67 (Or.inl (by decide)) D67_151 (by decide)).trans ?_
    refine (Q_putI zm_67 (Or.inl (by decide)) D67_152 zf_8_60 zs_8_12 rfl (zkw_0 hw0).1).trans ?_
    refine (Q_aload_n zm_67 (Or.inl (by decide)) D67_155 rfl).trans ?_
    refine (Q_iconst (v := 0) zm_67 (Or.inl (by decide)) D67_156 (by decide)).trans ?_
    refine (Q_putI zm_67 (Or.inl (by decide)) D67_157 zf_8_63 zs_8_13 rfl (zkw_0 hw0).1).trans ?_
    refine (Q_aload_n zm_67 (Or.inl (by decide)) D67_160 rfl).trans ?_
    refine (Q_iconst (v := 0) zm_67 (Or.inl (by decide)) D67_161 (by decide)).trans ?_
    refine (Q_putI zm_67 (Or.inl (by decide)) D67_162 zf_8_66 zs_8_14 rfl (zkw_0 hw0).1).trans ?_
    exact Q_return zm_67 (Or.inl (by decide)) D67_165 rfl
  · refine (Q_aload_n zm_67 (Or.inl (by decide)) D67_118 rfl).trans ?_
    refine (Q_getR (q := (w0 + 6)) zm_67 (Or.inl (by decide)) D67_119 zf_8_27 zs_8_7 (zkw_0 hw0).1 (zrw_7 hw0)).trans ?_
    refine (Q_iload_n zm_67 (Or.inl (by decide)) D67_122 rfl).trans ?_
    refine (Q_iconst (v := 0) zm_67 (Or.inl (by decide)) D67_123 (by decide)).trans ?_
    refine (Q_iastore zm_67 (Or.inl (by decide)) D67_124 (zkw_6 hw0).1 (zkw_6 hw0).2).trans ?_
    refine zand_c (fun h1_ => ?_)
    refine (Q_aload_n zm_67 (Or.inl (by decide)) D67_125 rfl).trans ?_
    refine (Q_getR (q := (w0 + 7)) zm_67 (Or.inl (by decide)) D67_126 zf_8_30 zs_8_8 (zkw_0 hw0).1 (zrw_8 hw0)).trans ?_
    refine (Q_iload_n zm_67 (Or.inl (by decide)) D67_129 rfl).trans ?_
    refine (Q_iconst (v := 0) zm_67 (Or.inl (by decide)) D67_130 (by decide)).trans ?_
    refine ((Q_iastore zm_67 (Or.inl (by decide)) D67_131 (zkw_7 hw0).1 (zkw_7 hw0).2).trans (zdrop h1_)).trans ?_
    refine (Q_aload_n zm_67 (Or.inl (by decide)) D67_132 rfl).trans ?_
    refine (Q_getR (q := (w0 + 8)) zm_67 (Or.inl (by decide)) D67_133 zf_8_33 zs_8_9 (zkw_0 hw0).1 (zrw_9 hw0)).trans ?_
    refine (Q_iload_n zm_67 (Or.inl (by decide)) D67_136 rfl).trans ?_
    refine (Q_iconst (v := 0) zm_67 (Or.inl (by decide)) D67_137 (by decide)).trans ?_
    refine ((Q_iastore zm_67 (Or.inl (by decide)) D67_138 (zkw_8 hw0).1 (zkw_8 hw0).2).trans (zdrop h1_)).trans ?_
    refine (Q_iinc (v := 1) (ls' := [some (.ref w0), some (.ref p1), some (.int (i2 + (1 : Int32)))]) zm_67 (Or.inl (by decide)) D67_139 rfl rfl (by decide) rfl).trans ?_
    refine (Q_goto (tgt := 112) zm_67 (Or.inl (by decide)) D67_142 (by decide)).trans ?_
    rfl

/-! HandsLet$World.copy(LHandsLet$World;)V -/
theorem D68_0 : decode prog_10_method_3_code 0 = .ok (.aload_n 0, 1) := by decide +kernel
theorem D68_1 : decode prog_10_method_3_code 1 = .ok (.aload_n 1, 1) := by decide +kernel
theorem D68_2 : decode prog_10_method_3_code 2 = .ok (.getfield 39, 3) := by decide +kernel
theorem D68_5 : decode prog_10_method_3_code 5 = .ok (.putfield 39, 3) := by decide +kernel
theorem D68_8 : decode prog_10_method_3_code 8 = .ok (.aload_n 0, 1) := by decide +kernel
theorem D68_9 : decode prog_10_method_3_code 9 = .ok (.aload_n 1, 1) := by decide +kernel
theorem D68_10 : decode prog_10_method_3_code 10 = .ok (.getfield 48, 3) := by decide +kernel
theorem D68_13 : decode prog_10_method_3_code 13 = .ok (.putfield 48, 3) := by decide +kernel
theorem D68_16 : decode prog_10_method_3_code 16 = .ok (.aload_n 1, 1) := by decide +kernel
theorem D68_17 : decode prog_10_method_3_code 17 = .ok (.getfield 9, 3) := by decide +kernel
theorem D68_20 : decode prog_10_method_3_code 20 = .ok (.iconst 0, 1) := by decide +kernel
theorem D68_21 : decode prog_10_method_3_code 21 = .ok (.aload_n 0, 1) := by decide +kernel
theorem D68_22 : decode prog_10_method_3_code 22 = .ok (.getfield 9, 3) := by decide +kernel
theorem D68_25 : decode prog_10_method_3_code 25 = .ok (.iconst 0, 1) := by decide +kernel
theorem D68_26 : decode prog_10_method_3_code 26 = .ok (.aload_n 0, 1) := by decide +kernel
theorem D68_27 : decode prog_10_method_3_code 27 = .ok (.getfield 9, 3) := by decide +kernel
theorem D68_30 : decode prog_10_method_3_code 30 = .ok (.arraylength, 1) := by decide +kernel
theorem D68_31 : decode prog_10_method_3_code 31 = .ok (.invokestatic 69, 3) := by decide +kernel
theorem D68_34 : decode prog_10_method_3_code 34 = .ok (.aload_n 1, 1) := by decide +kernel
theorem D68_35 : decode prog_10_method_3_code 35 = .ok (.getfield 15, 3) := by decide +kernel
theorem D68_38 : decode prog_10_method_3_code 38 = .ok (.iconst 0, 1) := by decide +kernel
theorem D68_39 : decode prog_10_method_3_code 39 = .ok (.aload_n 0, 1) := by decide +kernel
theorem D68_40 : decode prog_10_method_3_code 40 = .ok (.getfield 15, 3) := by decide +kernel
theorem D68_43 : decode prog_10_method_3_code 43 = .ok (.iconst 0, 1) := by decide +kernel
theorem D68_44 : decode prog_10_method_3_code 44 = .ok (.aload_n 0, 1) := by decide +kernel
theorem D68_45 : decode prog_10_method_3_code 45 = .ok (.getfield 15, 3) := by decide +kernel
theorem D68_48 : decode prog_10_method_3_code 48 = .ok (.arraylength, 1) := by decide +kernel
theorem D68_49 : decode prog_10_method_3_code 49 = .ok (.invokestatic 69, 3) := by decide +kernel
theorem D68_52 : decode prog_10_method_3_code 52 = .ok (.aload_n 1, 1) := by decide +kernel
theorem D68_53 : decode prog_10_method_3_code 53 = .ok (.getfield 18, 3) := by decide +kernel
theorem D68_56 : decode prog_10_method_3_code 56 = .ok (.iconst 0, 1) := by decide +kernel
theorem D68_57 : decode prog_10_method_3_code 57 = .ok (.aload_n 0, 1) := by decide +kernel
theorem D68_58 : decode prog_10_method_3_code 58 = .ok (.getfield 18, 3) := by decide +kernel
theorem D68_61 : decode prog_10_method_3_code 61 = .ok (.iconst 0, 1) := by decide +kernel
theorem D68_62 : decode prog_10_method_3_code 62 = .ok (.aload_n 0, 1) := by decide +kernel
theorem D68_63 : decode prog_10_method_3_code 63 = .ok (.getfield 18, 3) := by decide +kernel
theorem D68_66 : decode prog_10_method_3_code 66 = .ok (.arraylength, 1) := by decide +kernel
theorem D68_67 : decode prog_10_method_3_code 67 = .ok (.invokestatic 69, 3) := by decide +kernel
theorem D68_70 : decode prog_10_method_3_code 70 = .ok (.aload_n 1, 1) := by decide +kernel
theorem D68_71 : decode prog_10_method_3_code 71 = .ok (.getfield 21, 3) := by decide +kernel
theorem D68_74 : decode prog_10_method_3_code 74 = .ok (.iconst 0, 1) := by decide +kernel
theorem D68_75 : decode prog_10_method_3_code 75 = .ok (.aload_n 0, 1) := by decide +kernel
theorem D68_76 : decode prog_10_method_3_code 76 = .ok (.getfield 21, 3) := by decide +kernel
theorem D68_79 : decode prog_10_method_3_code 79 = .ok (.iconst 0, 1) := by decide +kernel
theorem D68_80 : decode prog_10_method_3_code 80 = .ok (.aload_n 0, 1) := by decide +kernel
theorem D68_81 : decode prog_10_method_3_code 81 = .ok (.getfield 21, 3) := by decide +kernel
theorem D68_84 : decode prog_10_method_3_code 84 = .ok (.arraylength, 1) := by decide +kernel
theorem D68_85 : decode prog_10_method_3_code 85 = .ok (.invokestatic 69, 3) := by decide +kernel
theorem D68_88 : decode prog_10_method_3_code 88 = .ok (.aload_n 1, 1) := by decide +kernel
theorem D68_89 : decode prog_10_method_3_code 89 = .ok (.getfield 24, 3) := by decide +kernel
theorem D68_92 : decode prog_10_method_3_code 92 = .ok (.iconst 0, 1) := by decide +kernel
theorem D68_93 : decode prog_10_method_3_code 93 = .ok (.aload_n 0, 1) := by decide +kernel
theorem D68_94 : decode prog_10_method_3_code 94 = .ok (.getfield 24, 3) := by decide +kernel
theorem D68_97 : decode prog_10_method_3_code 97 = .ok (.iconst 0, 1) := by decide +kernel
theorem D68_98 : decode prog_10_method_3_code 98 = .ok (.aload_n 0, 1) := by decide +kernel
theorem D68_99 : decode prog_10_method_3_code 99 = .ok (.getfield 24, 3) := by decide +kernel
theorem D68_102 : decode prog_10_method_3_code 102 = .ok (.arraylength, 1) := by decide +kernel
theorem D68_103 : decode prog_10_method_3_code 103 = .ok (.invokestatic 69, 3) := by decide +kernel
theorem D68_106 : decode prog_10_method_3_code 106 = .ok (.aload_n 1, 1) := by decide +kernel
theorem D68_107 : decode prog_10_method_3_code 107 = .ok (.getfield 27, 3) := by decide +kernel
theorem D68_110 : decode prog_10_method_3_code 110 = .ok (.iconst 0, 1) := by decide +kernel
theorem D68_111 : decode prog_10_method_3_code 111 = .ok (.aload_n 0, 1) := by decide +kernel
theorem D68_112 : decode prog_10_method_3_code 112 = .ok (.getfield 27, 3) := by decide +kernel
theorem D68_115 : decode prog_10_method_3_code 115 = .ok (.iconst 0, 1) := by decide +kernel
theorem D68_116 : decode prog_10_method_3_code 116 = .ok (.aload_n 0, 1) := by decide +kernel
theorem D68_117 : decode prog_10_method_3_code 117 = .ok (.getfield 27, 3) := by decide +kernel
theorem D68_120 : decode prog_10_method_3_code 120 = .ok (.arraylength, 1) := by decide +kernel
theorem D68_121 : decode prog_10_method_3_code 121 = .ok (.invokestatic 69, 3) := by decide +kernel
theorem D68_124 : decode prog_10_method_3_code 124 = .ok (.aload_n 1, 1) := by decide +kernel
theorem D68_125 : decode prog_10_method_3_code 125 = .ok (.getfield 30, 3) := by decide +kernel
theorem D68_128 : decode prog_10_method_3_code 128 = .ok (.iconst 0, 1) := by decide +kernel
theorem D68_129 : decode prog_10_method_3_code 129 = .ok (.aload_n 0, 1) := by decide +kernel
theorem D68_130 : decode prog_10_method_3_code 130 = .ok (.getfield 30, 3) := by decide +kernel
theorem D68_133 : decode prog_10_method_3_code 133 = .ok (.iconst 0, 1) := by decide +kernel
theorem D68_134 : decode prog_10_method_3_code 134 = .ok (.aload_n 0, 1) := by decide +kernel
theorem D68_135 : decode prog_10_method_3_code 135 = .ok (.getfield 30, 3) := by decide +kernel
theorem D68_138 : decode prog_10_method_3_code 138 = .ok (.arraylength, 1) := by decide +kernel
theorem D68_139 : decode prog_10_method_3_code 139 = .ok (.invokestatic 69, 3) := by decide +kernel
theorem D68_142 : decode prog_10_method_3_code 142 = .ok (.aload_n 1, 1) := by decide +kernel
theorem D68_143 : decode prog_10_method_3_code 143 = .ok (.getfield 33, 3) := by decide +kernel
theorem D68_146 : decode prog_10_method_3_code 146 = .ok (.iconst 0, 1) := by decide +kernel
theorem D68_147 : decode prog_10_method_3_code 147 = .ok (.aload_n 0, 1) := by decide +kernel
theorem D68_148 : decode prog_10_method_3_code 148 = .ok (.getfield 33, 3) := by decide +kernel
theorem D68_151 : decode prog_10_method_3_code 151 = .ok (.iconst 0, 1) := by decide +kernel
theorem D68_152 : decode prog_10_method_3_code 152 = .ok (.aload_n 0, 1) := by decide +kernel
theorem D68_153 : decode prog_10_method_3_code 153 = .ok (.getfield 33, 3) := by decide +kernel
theorem D68_156 : decode prog_10_method_3_code 156 = .ok (.arraylength, 1) := by decide +kernel
theorem D68_157 : decode prog_10_method_3_code 157 = .ok (.invokestatic 69, 3) := by decide +kernel
theorem D68_160 : decode prog_10_method_3_code 160 = .ok (.aload_n 1, 1) := by decide +kernel
theorem D68_161 : decode prog_10_method_3_code 161 = .ok (.getfield 36, 3) := by decide +kernel
theorem D68_164 : decode prog_10_method_3_code 164 = .ok (.iconst 0, 1) := by decide +kernel
theorem D68_165 : decode prog_10_method_3_code 165 = .ok (.aload_n 0, 1) := by decide +kernel
theorem D68_166 : decode prog_10_method_3_code 166 = .ok (.getfield 36, 3) := by decide +kernel
theorem D68_169 : decode prog_10_method_3_code 169 = .ok (.iconst 0, 1) := by decide +kernel
theorem D68_170 : decode prog_10_method_3_code 170 = .ok (.aload_n 0, 1) := by decide +kernel
theorem D68_171 : decode prog_10_method_3_code 171 = .ok (.getfield 36, 3) := by decide +kernel
theorem D68_174 : decode prog_10_method_3_code 174 = .ok (.arraylength, 1) := by decide +kernel
theorem D68_175 : decode prog_10_method_3_code 175 = .ok (.invokestatic 69, 3) := by decide +kernel
theorem D68_178 : decode prog_10_method_3_code 178 = .ok (.aload_n 0, 1) := by decide +kernel
theorem D68_179 : decode prog_10_method_3_code 179 = .ok (.aload_n 1, 1) := by decide +kernel
theorem D68_180 : decode prog_10_method_3_code 180 = .ok (.getfield 57, 3) := by decide +kernel
theorem D68_183 : decode prog_10_method_3_code 183 = .ok (.putfield 57, 3) := by decide +kernel
theorem D68_186 : decode prog_10_method_3_code 186 = .ok (.aload_n 0, 1) := by decide +kernel
theorem D68_187 : decode prog_10_method_3_code 187 = .ok (.aload_n 1, 1) := by decide +kernel
theorem D68_188 : decode prog_10_method_3_code 188 = .ok (.getfield 60, 3) := by decide +kernel
theorem D68_191 : decode prog_10_method_3_code 191 = .ok (.putfield 60, 3) := by decide +kernel
theorem D68_194 : decode prog_10_method_3_code 194 = .ok (.aload_n 0, 1) := by decide +kernel
theorem D68_195 : decode prog_10_method_3_code 195 = .ok (.aload_n 1, 1) := by decide +kernel
theorem D68_196 : decode prog_10_method_3_code 196 = .ok (.getfield 63, 3) := by decide +kernel
theorem D68_199 : decode prog_10_method_3_code 199 = .ok (.putfield 63, 3) := by decide +kernel
theorem D68_202 : decode prog_10_method_3_code 202 = .ok (.aload_n 0, 1) := by decide +kernel
theorem D68_203 : decode prog_10_method_3_code 203 = .ok (.aload_n 1, 1) := by decide +kernel
theorem D68_204 : decode prog_10_method_3_code 204 = .ok (.getfield 66, 3) := by decide +kernel
theorem D68_207 : decode prog_10_method_3_code 207 = .ok (.putfield 66, 3) := by decide +kernel
theorem D68_210 : decode prog_10_method_3_code 210 = .ok (.return_, 1) := by decide +kernel

theorem b68_0 {d : Nat} {w0 : Nat} {w1 : Nat} {ia : Nat → Nat → Int32} {la : Nat → Nat → Int64} {pl dr : Nat} {cp : Option Nat} {cw : Option Nat} {rp : Option Nat} {K : Option Value → zHP → Prop} (hw0 : zIsW w0) (hw1 : zIsW w1) : zWP (d + 5) 68 0 [some (.ref w0), some (.ref w1)] [] (ia, la, zRA pl dr cp cw rp) K = K none ((zu (zu (zu (zu (zcp (zcp (zcp (zcp (zcp (zcp (zcp (zcp (zcp (zu ia w0 0 (ia w1 0)) (w1 + 1) (w0 + 1) (0 : Int32) (0 : Int32) (6 : Int32)) (w1 + 2) (w0 + 2) (0 : Int32) (0 : Int32) (18 : Int32)) (w1 + 3) (w0 + 3) (0 : Int32) (0 : Int32) (6 : Int32)) (w1 + 4) (w0 + 4) (0 : Int32) (0 : Int32) (6 : Int32)) (w1 + 5) (w0 + 5) (0 : Int32) (0 : Int32) (6 : Int32)) (w1 + 6) (w0 + 6) (0 : Int32) (0 : Int32) (12 : Int32)) (w1 + 7) (w0 + 7) (0 : Int32) (0 : Int32) (12 : Int32)) (w1 + 8) (w0 + 8) (0 : Int32) (0 : Int32) (12 : Int32)) (w1 + 9) (w0 + 9) (0 : Int32) (0 : Int32) (36 : Int32)) w0 11 ((zcp (zcp (zcp (zcp (zcp (zcp (zcp (zcp (zcp (zu ia w0 0 (ia w1 0)) (w1 + 1) (w0 + 1) (0 : Int32) (0 : Int32) (6 : Int32)) (w1 + 2) (w0 + 2) (0 : Int32) (0 : Int32) (18 : Int32)) (w1 + 3) (w0 + 3) (0 : Int32) (0 : Int32) (6 : Int32)) (w1 + 4) (w0 + 4) (0 : Int32) (0 : Int32) (6 : Int32)) (w1 + 5) (w0 + 5) (0 : Int32) (0 : Int32) (6 : Int32)) (w1 + 6) (w0 + 6) (0 : Int32) (0 : Int32) (12 : Int32)) (w1 + 7) (w0 + 7) (0 : Int32) (0 : Int32) (12 : Int32)) (w1 + 8) (w0 + 8) (0 : Int32) (0 : Int32) (12 : Int32)) (w1 + 9) (w0 + 9) (0 : Int32) (0 : Int32) (36 : Int32)) w1 11)) w0 12 ((zu (zcp (zcp (zcp (zcp (zcp (zcp (zcp (zcp (zcp (zu ia w0 0 (ia w1 0)) (w1 + 1) (w0 + 1) (0 : Int32) (0 : Int32) (6 : Int32)) (w1 + 2) (w0 + 2) (0 : Int32) (0 : Int32) (18 : Int32)) (w1 + 3) (w0 + 3) (0 : Int32) (0 : Int32) (6 : Int32)) (w1 + 4) (w0 + 4) (0 : Int32) (0 : Int32) (6 : Int32)) (w1 + 5) (w0 + 5) (0 : Int32) (0 : Int32) (6 : Int32)) (w1 + 6) (w0 + 6) (0 : Int32) (0 : Int32) (12 : Int32)) (w1 + 7) (w0 + 7) (0 : Int32) (0 : Int32) (12 : Int32)) (w1 + 8) (w0 + 8) (0 : Int32) (0 : Int32) (12 : Int32)) (w1 + 9) (w0 + 9) (0 : Int32) (0 : Int32) (36 : Int32)) w0 11 ((zcp (zcp (zcp (zcp (zcp (zcp (zcp (zcp (zcp (zu ia w0 0 (ia w1 0)) (w1 + 1) (w0 + 1) (0 : Int32) (0 : Int32) (6 : Int32)) (w1 + 2) (w0 + 2) (0 : Int32) (0 : Int32) (18 : Int32)) (w1 + 3) (w0 + 3) (0 : Int32) (0 : Int32) (6 : Int32)) (w1 + 4) (w0 + 4) (0 : Int32) (0 : Int32) (6 : Int32)) (w1 + 5) (w0 + 5) (0 : Int32) (0 : Int32) (6 : Int32)) (w1 + 6) (w0 + 6) (0 : Int32) (0 : Int32) (12 : Int32)) (w1 + 7) (w0 + 7) (0 : Int32) (0 : Int32) (12 : Int32)) (w1 + 8) (w0 + 8) (0 : Int32) (0 : Int32) (12 : Int32)) (w1 + 9) (w0 + 9) (0 : Int32) (0 : Int32) (36 : Int32)) w1 11)) w1 12)) w0 13 ((zu (zu (zcp (zcp (zcp (zcp (zcp (zcp (zcp (zcp (zcp (zu ia w0 0 (ia w1 0)) (w1 + 1) (w0 + 1) (0 : Int32) (0 : Int32) (6 : Int32)) (w1 + 2) (w0 + 2) (0 : Int32) (0 : Int32) (18 : Int32)) (w1 + 3) (w0 + 3) (0 : Int32) (0 : Int32) (6 : Int32)) (w1 + 4) (w0 + 4) (0 : Int32) (0 : Int32) (6 : Int32)) (w1 + 5) (w0 + 5) (0 : Int32) (0 : Int32) (6 : Int32)) (w1 + 6) (w0 + 6) (0 : Int32) (0 : Int32) (12 : Int32)) (w1 + 7) (w0 + 7) (0 : Int32) (0 : Int32) (12 : Int32)) (w1 + 8) (w0 + 8) (0 : Int32) (0 : Int32) (12 : Int32)) (w1 + 9) (w0 + 9) (0 : Int32) (0 : Int32) (36 : Int32)) w0 11 ((zcp (zcp (zcp (zcp (zcp (zcp (zcp (zcp (zcp (zu ia w0 0 (ia w1 0)) (w1 + 1) (w0 + 1) (0 : Int32) (0 : Int32) (6 : Int32)) (w1 + 2) (w0 + 2) (0 : Int32) (0 : Int32) (18 : Int32)) (w1 + 3) (w0 + 3) (0 : Int32) (0 : Int32) (6 : Int32)) (w1 + 4) (w0 + 4) (0 : Int32) (0 : Int32) (6 : Int32)) (w1 + 5) (w0 + 5) (0 : Int32) (0 : Int32) (6 : Int32)) (w1 + 6) (w0 + 6) (0 : Int32) (0 : Int32) (12 : Int32)) (w1 + 7) (w0 + 7) (0 : Int32) (0 : Int32) (12 : Int32)) (w1 + 8) (w0 + 8) (0 : Int32) (0 : Int32) (12 : Int32)) (w1 + 9) (w0 + 9) (0 : Int32) (0 : Int32) (36 : Int32)) w1 11)) w0 12 ((zu (zcp (zcp (zcp (zcp (zcp (zcp (zcp (zcp (zcp (zu ia w0 0 (ia w1 0)) (w1 + 1) (w0 + 1) (0 : Int32) (0 : Int32) (6 : Int32)) (w1 + 2) (w0 + 2) (0 : Int32) (0 : Int32) (18 : Int32)) (w1 + 3) (w0 + 3) (0 : Int32) (0 : Int32) (6 : Int32)) (w1 + 4) (w0 + 4) (0 : Int32) (0 : Int32) (6 : Int32)) (w1 + 5) (w0 + 5) (0 : Int32) (0 : Int32) (6 : Int32)) (w1 + 6) (w0 + 6) (0 : Int32) (0 : Int32) (12 : Int32)) (w1 + 7) (w0 + 7) (0 : Int32) (0 : Int32) (12 : Int32)) (w1 + 8) (w0 + 8) (0 : Int32) (0 : Int32) (12 : Int32)) (w1 + 9) (w0 + 9) (0 : Int32) (0 : Int32) (36 : Int32)) w0 11 ((zcp (zcp (zcp (zcp (zcp (zcp (zcp (zcp (zcp (zu ia w0 0 (ia w1 0)) (w1 + 1) (w0 + 1) (0 : Int32) (0 : Int32) (6 : Int32)) (w1 + 2) (w0 + 2) (0 : Int32) (0 : Int32) (18 : Int32)) (w1 + 3) (w0 + 3) (0 : Int32) (0 : Int32) (6 : Int32)) (w1 + 4) (w0 + 4) (0 : Int32) (0 : Int32) (6 : Int32)) (w1 + 5) (w0 + 5) (0 : Int32) (0 : Int32) (6 : Int32)) (w1 + 6) (w0 + 6) (0 : Int32) (0 : Int32) (12 : Int32)) (w1 + 7) (w0 + 7) (0 : Int32) (0 : Int32) (12 : Int32)) (w1 + 8) (w0 + 8) (0 : Int32) (0 : Int32) (12 : Int32)) (w1 + 9) (w0 + 9) (0 : Int32) (0 : Int32) (36 : Int32)) w1 11)) w1 12)) w1 13)) w0 14 ((zu (zu (zu (zcp (zcp (zcp (zcp (zcp (zcp (zcp (zcp (zcp (zu ia w0 0 (ia w1 0)) (w1 + 1) (w0 + 1) (0 : Int32) (0 : Int32) (6 : Int32)) (w1 + 2) (w0 + 2) (0 : Int32) (0 : Int32) (18 : Int32)) (w1 + 3) (w0 + 3) (0 : Int32) (0 : Int32) (6 : Int32)) (w1 + 4) (w0 + 4) (0 : Int32) (0 : Int32) (6 : Int32)) (w1 + 5) (w0 + 5) (0 : Int32) (0 : Int32) (6 : Int32)) (w1 + 6) (w0 + 6) (0 : Int32) (0 : Int32) (12 : Int32)) (w1 + 7) (w0 + 7) (0 : Int32) (0 : Int32) (12 : Int32)) (w1 + 8) (w0 + 8) (0 : Int32) (0 : Int32) (12 : Int32)) (w1 + 9) (w0 + 9) (0 : Int32) (0 : Int32) (36 : Int32)) w0 11 ((zcp (zcp (zcp (zcp (zcp (zcp (zcp (zcp (zcp (zu ia w0 0 (ia w1 0)) (w1 + 1) (w0 + 1) (0 : Int32) (0 : Int32) (6 : Int32)) (w1 + 2) (w0 + 2) (0 : Int32) (0 : Int32) (18 : Int32)) (w1 + 3) (w0 + 3) (0 : Int32) (0 : Int32) (6 : Int32)) (w1 + 4) (w0 + 4) (0 : Int32) (0 : Int32) (6 : Int32)) (w1 + 5) (w0 + 5) (0 : Int32) (0 : Int32) (6 : Int32)) (w1 + 6) (w0 + 6) (0 : Int32) (0 : Int32) (12 : Int32)) (w1 + 7) (w0 + 7) (0 : Int32) (0 : Int32) (12 : Int32)) (w1 + 8) (w0 + 8) (0 : Int32) (0 : Int32) (12 : Int32)) (w1 + 9) (w0 + 9) (0 : Int32) (0 : Int32) (36 : Int32)) w1 11)) w0 12 ((zu (zcp (zcp (zcp (zcp (zcp (zcp (zcp (zcp (zcp (zu ia w0 0 (ia w1 0)) (w1 + 1) (w0 + 1) (0 : Int32) (0 : Int32) (6 : Int32)) (w1 + 2) (w0 + 2) (0 : Int32) (0 : Int32) (18 : Int32)) (w1 + 3) (w0 + 3) (0 : Int32) (0 : Int32) (6 : Int32)) (w1 + 4) (w0 + 4) (0 : Int32) (0 : Int32) (6 : Int32)) (w1 + 5) (w0 + 5) (0 : Int32) (0 : Int32) (6 : Int32)) (w1 + 6) (w0 + 6) (0 : Int32) (0 : Int32) (12 : Int32)) (w1 + 7) (w0 + 7) (0 : Int32) (0 : Int32) (12 : Int32)) (w1 + 8) (w0 + 8) (0 : Int32) (0 : Int32) (12 : Int32)) (w1 + 9) (w0 + 9) (0 : Int32) (0 : Int32) (36 : Int32)) w0 11 ((zcp (zcp (zcp (zcp (zcp (zcp (zcp (zcp (zcp (zu ia w0 0 (ia w1 0)) (w1 + 1) (w0 + 1) (0 : Int32) (0 : Int32) (6 : Int32)) (w1 + 2) (w0 + 2) (0 : Int32) (0 : Int32) (18 : Int32)) (w1 + 3) (w0 + 3) (0 : Int32) (0 : Int32) (6 : Int32)) (w1 + 4) (w0 + 4) (0 : Int32) (0 : Int32) (6 : Int32)) (w1 + 5) (w0 + 5) (0 : Int32) (0 : Int32) (6 : Int32)) (w1 + 6) (w0 + 6) (0 : Int32) (0 : Int32) (12 : Int32)) (w1 + 7) (w0 + 7) (0 : Int32) (0 : Int32) (12 : Int32)) (w1 + 8) (w0 + 8) (0 : Int32) (0 : Int32) (12 : Int32)) (w1 + 9) (w0 + 9) (0 : Int32) (0 : Int32) (36 : Int32)) w1 11)) w1 12)) w0 13 ((zu (zu (zcp (zcp (zcp (zcp (zcp (zcp (zcp (zcp (zcp (zu ia w0 0 (ia w1 0)) (w1 + 1) (w0 + 1) (0 : Int32) (0 : Int32) (6 : Int32)) (w1 + 2) (w0 + 2) (0 : Int32) (0 : Int32) (18 : Int32)) (w1 + 3) (w0 + 3) (0 : Int32) (0 : Int32) (6 : Int32)) (w1 + 4) (w0 + 4) (0 : Int32) (0 : Int32) (6 : Int32)) (w1 + 5) (w0 + 5) (0 : Int32) (0 : Int32) (6 : Int32)) (w1 + 6) (w0 + 6) (0 : Int32) (0 : Int32) (12 : Int32)) (w1 + 7) (w0 + 7) (0 : Int32) (0 : Int32) (12 : Int32)) (w1 + 8) (w0 + 8) (0 : Int32) (0 : Int32) (12 : Int32)) (w1 + 9) (w0 + 9) (0 : Int32) (0 : Int32) (36 : Int32)) w0 11 ((zcp (zcp (zcp (zcp (zcp (zcp (zcp (zcp (zcp (zu ia w0 0 (ia w1 0)) (w1 + 1) (w0 + 1) (0 : Int32) (0 : Int32) (6 : Int32)) (w1 + 2) (w0 + 2) (0 : Int32) (0 : Int32) (18 : Int32)) (w1 + 3) (w0 + 3) (0 : Int32) (0 : Int32) (6 : Int32)) (w1 + 4) (w0 + 4) (0 : Int32) (0 : Int32) (6 : Int32)) (w1 + 5) (w0 + 5) (0 : Int32) (0 : Int32) (6 : Int32)) (w1 + 6) (w0 + 6) (0 : Int32) (0 : Int32) (12 : Int32)) (w1 + 7) (w0 + 7) (0 : Int32) (0 : Int32) (12 : Int32)) (w1 + 8) (w0 + 8) (0 : Int32) (0 : Int32) (12 : Int32)) (w1 + 9) (w0 + 9) (0 : Int32) (0 : Int32) (36 : Int32)) w1 11)) w0 12 ((zu (zcp (zcp (zcp (zcp (zcp (zcp (zcp (zcp (zcp (zu ia w0 0 (ia w1 0)) (w1 + 1) (w0 + 1) (0 : Int32) (0 : Int32) (6 : Int32)) (w1 + 2) (w0 + 2) (0 : Int32) (0 : Int32) (18 : Int32)) (w1 + 3) (w0 + 3) (0 : Int32) (0 : Int32) (6 : Int32)) (w1 + 4) (w0 + 4) (0 : Int32) (0 : Int32) (6 : Int32)) (w1 + 5) (w0 + 5) (0 : Int32) (0 : Int32) (6 : Int32)) (w1 + 6) (w0 + 6) (0 : Int32) (0 : Int32) (12 : Int32)) (w1 + 7) (w0 + 7) (0 : Int32) (0 : Int32) (12 : Int32)) (w1 + 8) (w0 + 8) (0 : Int32) (0 : Int32) (12 : Int32)) (w1 + 9) (w0 + 9) (0 : Int32) (0 : Int32) (36 : Int32)) w0 11 ((zcp (zcp (zcp (zcp (zcp (zcp (zcp (zcp (zcp (zu ia w0 0 (ia w1 0)) (w1 + 1) (w0 + 1) (0 : Int32) (0 : Int32) (6 : Int32)) (w1 + 2) (w0 + 2) (0 : Int32) (0 : Int32) (18 : Int32)) (w1 + 3) (w0 + 3) (0 : Int32) (0 : Int32) (6 : Int32)) (w1 + 4) (w0 + 4) (0 : Int32) (0 : Int32) (6 : Int32)) (w1 + 5) (w0 + 5) (0 : Int32) (0 : Int32) (6 : Int32)) (w1 + 6) (w0 + 6) (0 : Int32) (0 : Int32) (12 : Int32)) (w1 + 7) (w0 + 7) (0 : Int32) (0 : Int32) (12 : Int32)) (w1 + 8) (w0 + 8) (0 : Int32) (0 : Int32) (12 : Int32)) (w1 + 9) (w0 + 9) (0 : Int32) (0 : Int32) (36 : Int32)) w1 11)) w1 12)) w1 13)) w1 14)), (zu la w0 1 (la w1 1)), zRA pl dr cp cw rp) := by
  refine (Q_aload_n zm_68 (Or.inl (by decide)) D68_0 rfl).trans ?_
  refine (Q_aload_n zm_68 (Or.inl (by decide)) D68_1 rfl).trans ?_
  refine (Q_getI zm_68 (Or.inl (by decide)) D68_2 zf_8_39 (Or.inl zs_8_0) (zkw_0 hw1).1).trans ?_
  refine (Q_putI zm_68 (Or.inl (by decide)) D68_5 zf_8_39 zs_8_0 rfl (zkw_0 hw0).1).trans ?_
  refine (Q_aload_n zm_68 (Or.inl (by decide)) D68_8 rfl).trans ?_
  refine (Q_aload_n zm_68 (Or.inl (by decide)) D68_9 rfl).trans ?_
  refine (Q_getJ zm_68 (Or.inl (by decide)) D68_10 zf_8_48 zs_8_1 (zkw_0 hw1).1).trans ?_
  refine (Q_putJ zm_68 (Or.inl (by decide)) D68_13 zf_8_48 zs_8_1 rfl (zkw_0 hw0).1).trans ?_
  refine (Q_aload_n zm_68 (Or.inl (by decide)) D68_16 rfl).trans ?_
  refine (Q_getR (q := (w1 + 1)) zm_68 (Or.inl (by decide)) D68_17 zf_8_9 zs_8_2 (zkw_0 hw1).1 (zrw_2 hw1)).trans ?_
  refine (Q_iconst (v := 0) zm_68 (Or.inl (by decide)) D68_20 (by decide)).trans ?_
  refine (Q_aload_n zm_68 (Or.inl (by decide)) D68_21 rfl).trans ?_
  refine (Q_getR (q := (w0 + 1)) zm_68 (Or.inl (by decide)) D68_22 zf_8_9 zs_8_2 (zkw_0 hw0).1 (zrw_2 hw0)).trans ?_
  refine (Q_iconst (v := 0) zm_68 (Or.inl (by decide)) D68_25 (by decide)).trans ?_
  refine (Q_aload_n zm_68 (Or.inl (by decide)) D68_26 rfl).trans ?_
  refine (Q_getR (q := (w0 + 1)) zm_68 (Or.inl (by decide)) D68_27 zf_8_9 zs_8_2 (zkw_0 hw0).1 (zrw_2 hw0)).trans ?_
  refine (Q_alen (v := 6) zm_68 (Or.inl (by decide)) D68_30 (zkw_1 hw0).1 (by decide) (zkw_1 hw0).2 (by decide)).trans ?_
  refine ((Q_acopy (rest := []) zm_68 (Or.inl (by decide)) D68_31 zc_8_69 (zkw_1 hw1).1 (zkw_1 hw0).1 (zkw_1 hw1).2 (zkw_1 hw0).2 (by simp [zcat, Value.category])).trans (zdrop (by decide))).trans ?_
  refine (Q_aload_n zm_68 (Or.inl (by decide)) D68_34 rfl).trans ?_
  refine (Q_getR (q := (w1 + 2)) zm_68 (Or.inl (by decide)) D68_35 zf_8_15 zs_8_3 (zkw_0 hw1).1 (zrw_3 hw1)).trans ?_
  refine (Q_iconst (v := 0) zm_68 (Or.inl (by decide)) D68_38 (by decide)).trans ?_
  refine (Q_aload_n zm_68 (Or.inl (by decide)) D68_39 rfl).trans ?_
  refine (Q_getR (q := (w0 + 2)) zm_68 (Or.inl (by decide)) D68_40 zf_8_15 zs_8_3 (zkw_0 hw0).1 (zrw_3 hw0)).trans ?_
  refine (Q_iconst (v := 0) zm_68 (Or.inl (by decide)) D68_43 (by decide)).trans ?_
  refine (Q_aload_n zm_68 (Or.inl (by decide)) D68_44 rfl).trans ?_
  refine (Q_getR (q := (w0 + 2)) zm_68 (Or.inl (by decide)) D68_45 zf_8_15 zs_8_3 (zkw_0 hw0).1 (zrw_3 hw0)).trans ?_
  refine (Q_alen (v := 18) zm_68 (Or.inl (by decide)) D68_48 (zkw_2 hw0).1 (by decide) (zkw_2 hw0).2 (by decide)).trans ?_
  refine ((Q_acopy (rest := []) zm_68 (Or.inl (by decide)) D68_49 zc_8_69 (zkw_2 hw1).1 (zkw_2 hw0).1 (zkw_2 hw1).2 (zkw_2 hw0).2 (by simp [zcat, Value.category])).trans (zdrop (by decide))).trans ?_
  refine (Q_aload_n zm_68 (Or.inl (by decide)) D68_52 rfl).trans ?_
  refine (Q_getR (q := (w1 + 3)) zm_68 (Or.inl (by decide)) D68_53 zf_8_18 zs_8_4 (zkw_0 hw1).1 (zrw_4 hw1)).trans ?_
  refine (Q_iconst (v := 0) zm_68 (Or.inl (by decide)) D68_56 (by decide)).trans ?_
  refine (Q_aload_n zm_68 (Or.inl (by decide)) D68_57 rfl).trans ?_
  refine (Q_getR (q := (w0 + 3)) zm_68 (Or.inl (by decide)) D68_58 zf_8_18 zs_8_4 (zkw_0 hw0).1 (zrw_4 hw0)).trans ?_
  refine (Q_iconst (v := 0) zm_68 (Or.inl (by decide)) D68_61 (by decide)).trans ?_
  refine (Q_aload_n zm_68 (Or.inl (by decide)) D68_62 rfl).trans ?_
  refine (Q_getR (q := (w0 + 3)) zm_68 (Or.inl (by decide)) D68_63 zf_8_18 zs_8_4 (zkw_0 hw0).1 (zrw_4 hw0)).trans ?_
  refine (Q_alen (v := 6) zm_68 (Or.inl (by decide)) D68_66 (zkw_3 hw0).1 (by decide) (zkw_3 hw0).2 (by decide)).trans ?_
  refine ((Q_acopy (rest := []) zm_68 (Or.inl (by decide)) D68_67 zc_8_69 (zkw_3 hw1).1 (zkw_3 hw0).1 (zkw_3 hw1).2 (zkw_3 hw0).2 (by simp [zcat, Value.category])).trans (zdrop (by decide))).trans ?_
  refine (Q_aload_n zm_68 (Or.inl (by decide)) D68_70 rfl).trans ?_
  refine (Q_getR (q := (w1 + 4)) zm_68 (Or.inl (by decide)) D68_71 zf_8_21 zs_8_5 (zkw_0 hw1).1 (zrw_5 hw1)).trans ?_
  refine (Q_iconst (v := 0) zm_68 (Or.inl (by decide)) D68_74 (by decide)).trans ?_
  refine (Q_aload_n zm_68 (Or.inl (by decide)) D68_75 rfl).trans ?_
  refine (Q_getR (q := (w0 + 4)) zm_68 (Or.inl (by decide)) D68_76 zf_8_21 zs_8_5 (zkw_0 hw0).1 (zrw_5 hw0)).trans ?_
  refine (Q_iconst (v := 0) zm_68 (Or.inl (by decide)) D68_79 (by decide)).trans ?_
  refine (Q_aload_n zm_68 (Or.inl (by decide)) D68_80 rfl).trans ?_
  refine (Q_getR (q := (w0 + 4)) zm_68 (Or.inl (by decide)) D68_81 zf_8_21 zs_8_5 (zkw_0 hw0).1 (zrw_5 hw0)).trans ?_
  refine (Q_alen (v := 6) zm_68 (Or.inl (by decide)) D68_84 (zkw_4 hw0).1 (by decide) (zkw_4 hw0).2 (by decide)).trans ?_
  refine ((Q_acopy (rest := []) zm_68 (Or.inl (by decide)) D68_85 zc_8_69 (zkw_4 hw1).1 (zkw_4 hw0).1 (zkw_4 hw1).2 (zkw_4 hw0).2 (by simp [zcat, Value.category])).trans (zdrop (by decide))).trans ?_
  refine (Q_aload_n zm_68 (Or.inl (by decide)) D68_88 rfl).trans ?_
  refine (Q_getR (q := (w1 + 5)) zm_68 (Or.inl (by decide)) D68_89 zf_8_24 zs_8_6 (zkw_0 hw1).1 (zrw_6 hw1)).trans ?_
  refine (Q_iconst (v := 0) zm_68 (Or.inl (by decide)) D68_92 (by decide)).trans ?_
  refine (Q_aload_n zm_68 (Or.inl (by decide)) D68_93 rfl).trans ?_
  refine (Q_getR (q := (w0 + 5)) zm_68 (Or.inl (by decide)) D68_94 zf_8_24 zs_8_6 (zkw_0 hw0).1 (zrw_6 hw0)).trans ?_
  refine (Q_iconst (v := 0) zm_68 (Or.inl (by decide)) D68_97 (by decide)).trans ?_
  refine (Q_aload_n zm_68 (Or.inl (by decide)) D68_98 rfl).trans ?_
  refine (Q_getR (q := (w0 + 5)) zm_68 (Or.inl (by decide)) D68_99 zf_8_24 zs_8_6 (zkw_0 hw0).1 (zrw_6 hw0)).trans ?_
  refine (Q_alen (v := 6) zm_68 (Or.inl (by decide)) D68_102 (zkw_5 hw0).1 (by decide) (zkw_5 hw0).2 (by decide)).trans ?_
  refine ((Q_acopy (rest := []) zm_68 (Or.inl (by decide)) D68_103 zc_8_69 (zkw_5 hw1).1 (zkw_5 hw0).1 (zkw_5 hw1).2 (zkw_5 hw0).2 (by simp [zcat, Value.category])).trans (zdrop (by decide))).trans ?_
  refine (Q_aload_n zm_68 (Or.inl (by decide)) D68_106 rfl).trans ?_
  refine (Q_getR (q := (w1 + 6)) zm_68 (Or.inl (by decide)) D68_107 zf_8_27 zs_8_7 (zkw_0 hw1).1 (zrw_7 hw1)).trans ?_
  refine (Q_iconst (v := 0) zm_68 (Or.inl (by decide)) D68_110 (by decide)).trans ?_
  refine (Q_aload_n zm_68 (Or.inl (by decide)) D68_111 rfl).trans ?_
  refine (Q_getR (q := (w0 + 6)) zm_68 (Or.inl (by decide)) D68_112 zf_8_27 zs_8_7 (zkw_0 hw0).1 (zrw_7 hw0)).trans ?_
  refine (Q_iconst (v := 0) zm_68 (Or.inl (by decide)) D68_115 (by decide)).trans ?_
  refine (Q_aload_n zm_68 (Or.inl (by decide)) D68_116 rfl).trans ?_
  refine (Q_getR (q := (w0 + 6)) zm_68 (Or.inl (by decide)) D68_117 zf_8_27 zs_8_7 (zkw_0 hw0).1 (zrw_7 hw0)).trans ?_
  refine (Q_alen (v := 12) zm_68 (Or.inl (by decide)) D68_120 (zkw_6 hw0).1 (by decide) (zkw_6 hw0).2 (by decide)).trans ?_
  refine ((Q_acopy (rest := []) zm_68 (Or.inl (by decide)) D68_121 zc_8_69 (zkw_6 hw1).1 (zkw_6 hw0).1 (zkw_6 hw1).2 (zkw_6 hw0).2 (by simp [zcat, Value.category])).trans (zdrop (by decide))).trans ?_
  refine (Q_aload_n zm_68 (Or.inl (by decide)) D68_124 rfl).trans ?_
  refine (Q_getR (q := (w1 + 7)) zm_68 (Or.inl (by decide)) D68_125 zf_8_30 zs_8_8 (zkw_0 hw1).1 (zrw_8 hw1)).trans ?_
  refine (Q_iconst (v := 0) zm_68 (Or.inl (by decide)) D68_128 (by decide)).trans ?_
  refine (Q_aload_n zm_68 (Or.inl (by decide)) D68_129 rfl).trans ?_
  refine (Q_getR (q := (w0 + 7)) zm_68 (Or.inl (by decide)) D68_130 zf_8_30 zs_8_8 (zkw_0 hw0).1 (zrw_8 hw0)).trans ?_
  refine (Q_iconst (v := 0) zm_68 (Or.inl (by decide)) D68_133 (by decide)).trans ?_
  refine (Q_aload_n zm_68 (Or.inl (by decide)) D68_134 rfl).trans ?_
  refine (Q_getR (q := (w0 + 7)) zm_68 (Or.inl (by decide)) D68_135 zf_8_30 zs_8_8 (zkw_0 hw0).1 (zrw_8 hw0)).trans ?_
  refine (Q_alen (v := 12) zm_68 (Or.inl (by decide)) D68_138 (zkw_7 hw0).1 (by decide) (zkw_7 hw0).2 (by decide)).trans ?_
  refine ((Q_acopy (rest := []) zm_68 (Or.inl (by decide)) D68_139 zc_8_69 (zkw_7 hw1).1 (zkw_7 hw0).1 (zkw_7 hw1).2 (zkw_7 hw0).2 (by simp [zcat, Value.category])).trans (zdrop (by decide))).trans ?_
  refine (Q_aload_n zm_68 (Or.inl (by decide)) D68_142 rfl).trans ?_
  refine (Q_getR (q := (w1 + 8)) zm_68 (Or.inl (by decide)) D68_143 zf_8_33 zs_8_9 (zkw_0 hw1).1 (zrw_9 hw1)).trans ?_
  refine (Q_iconst (v := 0) zm_68 (Or.inl (by decide)) D68_146 (by decide)).trans ?_
  refine (Q_aload_n zm_68 (Or.inl (by decide)) D68_147 rfl).trans ?_
  refine (Q_getR (q := (w0 + 8)) zm_68 (Or.inl (by decide)) D68_148 zf_8_33 zs_8_9 (zkw_0 hw0).1 (zrw_9 hw0)).trans ?_
  refine (Q_iconst (v := 0) zm_68 (Or.inl (by decide)) D68_151 (by decide)).trans ?_
  refine (Q_aload_n zm_68 (Or.inl (by decide)) D68_152 rfl).trans ?_
  refine (Q_getR (q := (w0 + 8)) zm_68 (Or.inl (by decide)) D68_153 zf_8_33 zs_8_9 (zkw_0 hw0).1 (zrw_9 hw0)).trans ?_
  refine (Q_alen (v := 12) zm_68 (Or.inl (by decide)) D68_156 (zkw_8 hw0).1 (by decide) (zkw_8 hw0).2 (by decide)).trans ?_
  refine ((Q_acopy (rest := []) zm_68 (Or.inl (by decide)) D68_157 zc_8_69 (zkw_8 hw1).1 (zkw_8 hw0).1 (zkw_8 hw1).2 (zkw_8 hw0).2 (by simp [zcat, Value.category])).trans (zdrop (by decide))).trans ?_
  refine (Q_aload_n zm_68 (Or.inl (by decide)) D68_160 rfl).trans ?_
  refine (Q_getR (q := (w1 + 9)) zm_68 (Or.inl (by decide)) D68_161 zf_8_36 zs_8_10 (zkw_0 hw1).1 (zrw_10 hw1)).trans ?_
  refine (Q_iconst (v := 0) zm_68 (Or.inl (by decide)) D68_164 (by decide)).trans ?_
  refine (Q_aload_n zm_68 (Or.inl (by decide)) D68_165 rfl).trans ?_
  refine (Q_getR (q := (w0 + 9)) zm_68 (Or.inl (by decide)) D68_166 zf_8_36 zs_8_10 (zkw_0 hw0).1 (zrw_10 hw0)).trans ?_
  refine (Q_iconst (v := 0) zm_68 (Or.inl (by decide)) D68_169 (by decide)).trans ?_
  refine (Q_aload_n zm_68 (Or.inl (by decide)) D68_170 rfl).trans ?_
  refine (Q_getR (q := (w0 + 9)) zm_68 (Or.inl (by decide)) D68_171 zf_8_36 zs_8_10 (zkw_0 hw0).1 (zrw_10 hw0)).trans ?_
  refine (Q_alen (v := 36) zm_68 (Or.inl (by decide)) D68_174 (zkw_9 hw0).1 (by decide) (zkw_9 hw0).2 (by decide)).trans ?_
  refine ((Q_acopy (rest := []) zm_68 (Or.inl (by decide)) D68_175 zc_8_69 (zkw_9 hw1).1 (zkw_9 hw0).1 (zkw_9 hw1).2 (zkw_9 hw0).2 (by simp [zcat, Value.category])).trans (zdrop (by decide))).trans ?_
  refine (Q_aload_n zm_68 (Or.inl (by decide)) D68_178 rfl).trans ?_
  refine (Q_aload_n zm_68 (Or.inl (by decide)) D68_179 rfl).trans ?_
  refine (Q_getI zm_68 (Or.inl (by decide)) D68_180 zf_8_57 (Or.inl zs_8_11) (zkw_0 hw1).1).trans ?_
  refine (Q_putI zm_68 (Or.inl (by decide)) D68_183 zf_8_57 zs_8_11 rfl (zkw_0 hw0).1).trans ?_
  refine (Q_aload_n zm_68 (Or.inl (by decide)) D68_186 rfl).trans ?_
  refine (Q_aload_n zm_68 (Or.inl (by decide)) D68_187 rfl).trans ?_
  refine (Q_getI zm_68 (Or.inl (by decide)) D68_188 zf_8_60 (Or.inl zs_8_12) (zkw_0 hw1).1).trans ?_
  refine (Q_putI zm_68 (Or.inl (by decide)) D68_191 zf_8_60 zs_8_12 rfl (zkw_0 hw0).1).trans ?_
  refine (Q_aload_n zm_68 (Or.inl (by decide)) D68_194 rfl).trans ?_
  refine (Q_aload_n zm_68 (Or.inl (by decide)) D68_195 rfl).trans ?_
  refine (Q_getI zm_68 (Or.inl (by decide)) D68_196 zf_8_63 (Or.inl zs_8_13) (zkw_0 hw1).1).trans ?_
  refine (Q_putI zm_68 (Or.inl (by decide)) D68_199 zf_8_63 zs_8_13 rfl (zkw_0 hw0).1).trans ?_
  refine (Q_aload_n zm_68 (Or.inl (by decide)) D68_202 rfl).trans ?_
  refine (Q_aload_n zm_68 (Or.inl (by decide)) D68_203 rfl).trans ?_
  refine (Q_getI zm_68 (Or.inl (by decide)) D68_204 zf_8_66 (Or.inl zs_8_14) (zkw_0 hw1).1).trans ?_
  refine (Q_putI zm_68 (Or.inl (by decide)) D68_207 zf_8_66 zs_8_14 rfl (zkw_0 hw0).1).trans ?_
  exact Q_return zm_68 (Or.inl (by decide)) D68_210 rfl

/-! HandsLet$World.isLet(I)Z -/
theorem D69_0 : decode prog_10_method_4_code 0 = .ok (.aload_n 0, 1) := by decide +kernel
theorem D69_1 : decode prog_10_method_4_code 1 = .ok (.getfield 18, 3) := by decide +kernel
theorem D69_4 : decode prog_10_method_4_code 4 = .ok (.iload_n 1, 1) := by decide +kernel
theorem D69_5 : decode prog_10_method_4_code 5 = .ok (.iaload, 1) := by decide +kernel
theorem D69_6 : decode prog_10_method_4_code 6 = .ok (.ifCond .lt 7, 3) := by decide +kernel
theorem D69_9 : decode prog_10_method_4_code 9 = .ok (.iconst 1, 1) := by decide +kernel
theorem D69_10 : decode prog_10_method_4_code 10 = .ok (.goto 4, 3) := by decide +kernel
theorem D69_13 : decode prog_10_method_4_code 13 = .ok (.iconst 0, 1) := by decide +kernel
theorem D69_14 : decode prog_10_method_4_code 14 = .ok (.ireturn, 1) := by decide +kernel

theorem b69_0 {d : Nat} {w0 : Nat} {i1 : Int32} {ia : Nat → Nat → Int32} {la : Nat → Nat → Int64} {pl dr : Nat} {cp : Option Nat} {cw : Option Nat} {rp : Option Nat} {K : Option Value → zHP → Prop} (hw0 : zIsW w0) : zWP d 69 0 [some (.ref w0), some (.int i1)] [] (ia, la, zRA pl dr cp cw rp) K = (vp_in i1 6 ∧ (if (ia (w0 + 3) (i1).toNatClampNeg) < 0 then K (some (.int (0 : Int32))) (ia, la, zRA pl dr cp cw rp) else K (some (.int (1 : Int32))) (ia, la, zRA pl dr cp cw rp))) := by
  refine (Q_aload_n zm_69 (Or.inl (by decide)) D69_0 rfl).trans ?_
  refine (Q_getR (q := (w0 + 3)) zm_69 (Or.inl (by decide)) D69_1 zf_8_18 zs_8_4 (zkw_0 hw0).1 (zrw_4 hw0)).trans ?_
  refine (Q_iload_n zm_69 (Or.inl (by decide)) D69_4 rfl).trans ?_
  refine (Q_iaload zm_69 (Or.inl (by decide)) D69_5 (zkw_3 hw0).1 (zkw_3 hw0).2).trans ?_
  refine zand_c (fun h0_ => ?_)
  refine (Q_if_lt (tgt := 13) zm_69 (Or.inl (by decide)) D69_6 (by decide)).trans ?_
  refine zif_c (fun h1_ => ?_) (fun h1_ => ?_)
  · refine (Q_iconst (v := 0) zm_69 (Or.inl (by decide)) D69_13 (by decide)).trans ?_
    exact Q_zreturn zm_69 (Or.inl (by decide)) D69_14 rfl (by decide)
  · refine (Q_iconst (v := 1) zm_69 (Or.inl (by decide)) D69_9 (by decide)).trans ?_
    refine (Q_goto (tgt := 14) zm_69 (Or.inl (by decide)) D69_10 (by decide)).trans ?_
    exact Q_zreturn zm_69 (Or.inl (by decide)) D69_14 rfl (by decide)

/-! HandsLet$World.holderOf(I)I -/
theorem D70_0 : decode prog_10_method_5_code 0 = .ok (.aload_n 0, 1) := by decide +kernel
theorem D70_1 : decode prog_10_method_5_code 1 = .ok (.iload_n 1, 1) := by decide +kernel
theorem D70_2 : decode prog_10_method_5_code 2 = .ok (.invokevirtual 75, 3) := by decide +kernel
theorem D70_5 : decode prog_10_method_5_code 5 = .ok (.ifCond .eq 12, 3) := by decide +kernel
theorem D70_8 : decode prog_10_method_5_code 8 = .ok (.aload_n 0, 1) := by decide +kernel
theorem D70_9 : decode prog_10_method_5_code 9 = .ok (.getfield 18, 3) := by decide +kernel
theorem D70_12 : decode prog_10_method_5_code 12 = .ok (.iload_n 1, 1) := by decide +kernel
theorem D70_13 : decode prog_10_method_5_code 13 = .ok (.iaload, 1) := by decide +kernel
theorem D70_14 : decode prog_10_method_5_code 14 = .ok (.goto 4, 3) := by decide +kernel
theorem D70_17 : decode prog_10_method_5_code 17 = .ok (.iload_n 1, 1) := by decide +kernel
theorem D70_18 : decode prog_10_method_5_code 18 = .ok (.ireturn, 1) := by decide +kernel

theorem b70_0 {d : Nat} {w0 : Nat} {i1 : Int32} {ia : Nat → Nat → Int32} {la : Nat → Nat → Int64} {pl dr : Nat} {cp : Option Nat} {cw : Option Nat} {rp : Option Nat} {K : Option Value → zHP → Prop} (hw0 : zIsW w0) : zWP (d + 1) 70 0 [some (.ref w0), some (.int i1)] [] (ia, la, zRA pl dr cp cw rp) K = zWM d 69 [.ref w0, .int i1] (ia, la, zRA pl dr cp cw rp) (zK (d + 1) 70 5 [some (.ref w0), some (.int i1)] [] K) := by
  refine (Q_aload_n zm_70 (Or.inl (by decide)) D70_0 rfl).trans ?_
  refine (Q_iload_n zm_70 (Or.inl (by decide)) D70_1 rfl).trans ?_
  exact Q_callv (as := [.int i1]) (b := w0) (rest := []) zm_70 (Or.inl (by decide)) D70_2 zc_8_75 rfl (zkw_0 hw0).1 (by decide) (by decide +kernel) (by decide) (by simp [zcat, Value.category]) zm_69 rfl

theorem b70_5 {d : Nat} {w0 : Nat} {i1 : Int32} {s0 : Int32} {ia : Nat → Nat → Int32} {la : Nat → Nat → Int64} {pl dr : Nat} {cp : Option Nat} {cw : Option Nat} {rp : Option Nat} {K : Option Value → zHP → Prop} (hw0 : zIsW w0) : zWP d 70 5 [some (.ref w0), some (.int i1)] [.int s0] (ia, la, zRA pl dr cp cw rp) K = (if s0 = 0 then K (some (.int i1)) (ia, la, zRA pl dr cp cw rp) else (vp_in i1 6 ∧ K (some (.int (ia (w0 + 3) (i1).toNatClampNeg))) (ia, la, zRA pl dr cp cw rp))) := by
  refine (Q_if_eq (tgt := 17) zm_70 (Or.inl (by decide)) D70_5 (by decide)).trans ?_
  refine zif_c (fun h0_ => ?_) (fun h0_ => ?_)
  · refine (Q_iload_n zm_70 (Or.inl (by decide)) D70_17 rfl).trans ?_
    exact Q_ireturn zm_70 (Or.inl (by decide)) D70_18 rfl
  · refine (Q_aload_n zm_70 (Or.inl (by decide)) D70_8 rfl).trans ?_
    refine (Q_getR (q := (w0 + 3)) zm_70 (Or.inl (by decide)) D70_9 zf_8_18 zs_8_4 (zkw_0 hw0).1 (zrw_4 hw0)).trans ?_
    refine (Q_iload_n zm_70 (Or.inl (by decide)) D70_12 rfl).trans ?_
    refine (Q_iaload zm_70 (Or.inl (by decide)) D70_13 (zkw_3 hw0).1 (zkw_3 hw0).2).trans ?_
    refine zand_c (fun h1_ => ?_)
    refine (Q_goto (tgt := 18) zm_70 (Or.inl (by decide)) D70_14 (by decide)).trans ?_
    exact Q_ireturn zm_70 (Or.inl (by decide)) D70_18 rfl

/-! HandsLet$World.mayLet(III)Z -/
theorem D71_0 : decode prog_10_method_6_code 0 = .ok (.aload_n 0, 1) := by decide +kernel
theorem D71_1 : decode prog_10_method_6_code 1 = .ok (.iload_n 1, 1) := by decide +kernel
theorem D71_2 : decode prog_10_method_6_code 2 = .ok (.invokevirtual 75, 3) := by decide +kernel
theorem D71_5 : decode prog_10_method_6_code 5 = .ok (.ifCond .ne 17, 3) := by decide +kernel
theorem D71_8 : decode prog_10_method_6_code 8 = .ok (.aload_n 0, 1) := by decide +kernel
theorem D71_9 : decode prog_10_method_6_code 9 = .ok (.getfield 9, 3) := by decide +kernel
theorem D71_12 : decode prog_10_method_6_code 12 = .ok (.iload_n 2, 1) := by decide +kernel
theorem D71_13 : decode prog_10_method_6_code 13 = .ok (.iaload, 1) := by decide +kernel
theorem D71_14 : decode prog_10_method_6_code 14 = .ok (.iload_n 3, 1) := by decide +kernel
theorem D71_15 : decode prog_10_method_6_code 15 = .ok (.if_icmp .lt 7, 3) := by decide +kernel
theorem D71_18 : decode prog_10_method_6_code 18 = .ok (.iconst 1, 1) := by decide +kernel
theorem D71_19 : decode prog_10_method_6_code 19 = .ok (.goto 4, 3) := by decide +kernel
theorem D71_22 : decode prog_10_method_6_code 22 = .ok (.iconst 0, 1) := by decide +kernel
theorem D71_23 : decode prog_10_method_6_code 23 = .ok (.ireturn, 1) := by decide +kernel

theorem b71_0 {d : Nat} {w0 : Nat} {i1 : Int32} {i2 : Int32} {i3 : Int32} {ia : Nat → Nat → Int32} {la : Nat → Nat → Int64} {pl dr : Nat} {cp : Option Nat} {cw : Option Nat} {rp : Option Nat} {K : Option Value → zHP → Prop} (hw0 : zIsW w0) : zWP (d + 1) 71 0 [some (.ref w0), some (.int i1), some (.int i2), some (.int i3)] [] (ia, la, zRA pl dr cp cw rp) K = zWM d 69 [.ref w0, .int i1] (ia, la, zRA pl dr cp cw rp) (zK (d + 1) 71 5 [some (.ref w0), some (.int i1), some (.int i2), some (.int i3)] [] K) := by
  refine (Q_aload_n zm_71 (Or.inl (by decide)) D71_0 rfl).trans ?_
  refine (Q_iload_n zm_71 (Or.inl (by decide)) D71_1 rfl).trans ?_
  exact Q_callv (as := [.int i1]) (b := w0) (rest := []) zm_71 (Or.inl (by decide)) D71_2 zc_8_75 rfl (zkw_0 hw0).1 (by decide) (by decide +kernel) (by decide) (by simp [zcat, Value.category]) zm_69 rfl

theorem b71_5 {d : Nat} {w0 : Nat} {i1 : Int32} {i2 : Int32} {i3 : Int32} {s0 : Int32} {ia : Nat → Nat → Int32} {la : Nat → Nat → Int64} {pl dr : Nat} {cp : Option Nat} {cw : Option Nat} {rp : Option Nat} {K : Option Value → zHP → Prop} (hw0 : zIsW w0) : zWP d 71 5 [some (.ref w0), some (.int i1), some (.int i2), some (.int i3)] [.int s0] (ia, la, zRA pl dr cp cw rp) K = (if ¬ s0 = 0 then K (some (.int (0 : Int32))) (ia, la, zRA pl dr cp cw rp) else (vp_in i2 6 ∧ (if (ia (w0 + 1) (i2).toNatClampNeg) < i3 then K (some (.int (0 : Int32))) (ia, la, zRA pl dr cp cw rp) else K (some (.int (1 : Int32))) (ia, la, zRA pl dr cp cw rp)))) := by
  refine (Q_if_ne (tgt := 22) zm_71 (Or.inl (by decide)) D71_5 (by decide)).trans ?_
  refine zif_c (fun h0_ => ?_) (fun h0_ => ?_)
  · refine (Q_iconst (v := 0) zm_71 (Or.inl (by decide)) D71_22 (by decide)).trans ?_
    exact Q_zreturn zm_71 (Or.inl (by decide)) D71_23 rfl (by decide)
  · refine (Q_aload_n zm_71 (Or.inl (by decide)) D71_8 rfl).trans ?_
    refine (Q_getR (q := (w0 + 1)) zm_71 (Or.inl (by decide)) D71_9 zf_8_9 zs_8_2 (zkw_0 hw0).1 (zrw_2 hw0)).trans ?_
    refine (Q_iload_n zm_71 (Or.inl (by decide)) D71_12 rfl).trans ?_
    refine (Q_iaload zm_71 (Or.inl (by decide)) D71_13 (zkw_1 hw0).1 (zkw_1 hw0).2).trans ?_
    refine zand_c (fun h1_ => ?_)
    refine (Q_iload_n zm_71 (Or.inl (by decide)) D71_14 rfl).trans ?_
    refine (Q_ic_lt (tgt := 22) zm_71 (Or.inl (by decide)) D71_15 (by decide)).trans ?_
    refine zif_c (fun h2_ => ?_) (fun h2_ => ?_)
    · refine (Q_iconst (v := 0) zm_71 (Or.inl (by decide)) D71_22 (by decide)).trans ?_
      exact Q_zreturn zm_71 (Or.inl (by decide)) D71_23 rfl (by decide)
    · refine (Q_iconst (v := 1) zm_71 (Or.inl (by decide)) D71_18 (by decide)).trans ?_
      refine (Q_goto (tgt := 23) zm_71 (Or.inl (by decide)) D71_19 (by decide)).trans ?_
      exact Q_zreturn zm_71 (Or.inl (by decide)) D71_23 rfl (by decide)

/-! HandsLet$World.handOver(IIII)V -/
theorem D72_0 : decode prog_10_method_7_code 0 = .ok (.aload_n 0, 1) := by decide +kernel
theorem D72_1 : decode prog_10_method_7_code 1 = .ok (.getfield 18, 3) := by decide +kernel
theorem D72_4 : decode prog_10_method_7_code 4 = .ok (.iload_n 1, 1) := by decide +kernel
theorem D72_5 : decode prog_10_method_7_code 5 = .ok (.iload_n 2, 1) := by decide +kernel
theorem D72_6 : decode prog_10_method_7_code 6 = .ok (.iastore, 1) := by decide +kernel
theorem D72_7 : decode prog_10_method_7_code 7 = .ok (.aload_n 0, 1) := by decide +kernel
theorem D72_8 : decode prog_10_method_7_code 8 = .ok (.getfield 21, 3) := by decide +kernel
theorem D72_11 : decode prog_10_method_7_code 11 = .ok (.iload_n 1, 1) := by decide +kernel
theorem D72_12 : decode prog_10_method_7_code 12 = .ok (.iload_n 3, 1) := by decide +kernel
theorem D72_13 : decode prog_10_method_7_code 13 = .ok (.iastore, 1) := by decide +kernel
theorem D72_14 : decode prog_10_method_7_code 14 = .ok (.aload_n 0, 1) := by decide +kernel
theorem D72_15 : decode prog_10_method_7_code 15 = .ok (.getfield 9, 3) := by decide +kernel
theorem D72_18 : decode prog_10_method_7_code 18 = .ok (.iload_n 2, 1) := by decide +kernel
theorem D72_19 : decode prog_10_method_7_code 19 = .ok (.dup2, 1) := by decide +kernel
theorem D72_20 : decode prog_10_method_7_code 20 = .ok (.iaload, 1) := by decide +kernel
theorem D72_21 : decode prog_10_method_7_code 21 = .ok (.iload 4, 2) := by decide +kernel
theorem D72_23 : decode prog_10_method_7_code 23 = .ok (.isub, 1) := by decide +kernel
theorem D72_24 : decode prog_10_method_7_code 24 = .ok (.iastore, 1) := by decide +kernel
theorem D72_25 : decode prog_10_method_7_code 25 = .ok (.aload_n 0, 1) := by decide +kernel
theorem D72_26 : decode prog_10_method_7_code 26 = .ok (.getfield 9, 3) := by decide +kernel
theorem D72_29 : decode prog_10_method_7_code 29 = .ok (.iload_n 1, 1) := by decide +kernel
theorem D72_30 : decode prog_10_method_7_code 30 = .ok (.sipush 9999, 3) := by decide +kernel
theorem D72_33 : decode prog_10_method_7_code 33 = .ok (.aload_n 0, 1) := by decide +kernel
theorem D72_34 : decode prog_10_method_7_code 34 = .ok (.getfield 9, 3) := by decide +kernel
theorem D72_37 : decode prog_10_method_7_code 37 = .ok (.iload_n 1, 1) := by decide +kernel
theorem D72_38 : decode prog_10_method_7_code 38 = .ok (.iaload, 1) := by decide +kernel
theorem D72_39 : decode prog_10_method_7_code 39 = .ok (.iload 4, 2) := by decide +kernel
theorem D72_41 : decode prog_10_method_7_code 41 = .ok (.iadd, 1) := by decide +kernel
theorem D72_42 : decode prog_10_method_7_code 42 = .ok (.invokestatic 79, 3) := by decide +kernel
theorem D72_45 : decode prog_10_method_7_code 45 = .ok (.iastore, 1) := by decide +kernel
theorem D72_46 : decode prog_10_method_7_code 46 = .ok (.return_, 1) := by decide +kernel

theorem b72_0 {d : Nat} {w0 : Nat} {i1 : Int32} {i2 : Int32} {i3 : Int32} {i4 : Int32} {ia : Nat → Nat → Int32} {la : Nat → Nat → Int64} {pl dr : Nat} {cp : Option Nat} {cw : Option Nat} {rp : Option Nat} {K : Option Value → zHP → Prop} (hw0 : zIsW w0) : zWP (d + 5) 72 0 [some (.ref w0), some (.int i1), some (.int i2), some (.int i3), some (.int i4)] [] (ia, la, zRA pl dr cp cw rp) K = (vp_in i1 6 ∧ (vp_in i2 6 ∧ K none ((zu (zu (zu (zu ia (w0 + 3) (i1).toNatClampNeg i2) (w0 + 4) (i1).toNatClampNeg i3) (w0 + 1) (i2).toNatClampNeg (((zu (zu ia (w0 + 3) (i1).toNatClampNeg i2) (w0 + 4) (i1).toNatClampNeg i3) (w0 + 1) (i2).toNatClampNeg) - i4)) (w0 + 1) (i1).toNatClampNeg (if (((zu (zu (zu ia (w0 + 3) (i1).toNatClampNeg i2) (w0 + 4) (i1).toNatClampNeg i3) (w0 + 1) (i2).toNatClampNeg (((zu (zu ia (w0 + 3) (i1).toNatClampNeg i2) (w0 + 4) (i1).toNatClampNeg i3) (w0 + 1) (i2).toNatClampNeg) - i4)) (w0 + 1) (i1).toNatClampNeg) + i4) < (9999 : Int32) then (((zu (zu (zu ia (w0 + 3) (i1).toNatClampNeg i2) (w0 + 4) (i1).toNatClampNeg i3) (w0 + 1) (i2).toNatClampNeg (((zu (zu ia (w0 + 3) (i1).toNatClampNeg i2) (w0 + 4) (i1).toNatClampNeg i3) (w0 + 1) (i2).toNatClampNeg) - i4)) (w0 + 1) (i1).toNatClampNeg) + i4) else (9999 : Int32))), la, zRA pl dr cp cw rp))) := by
  refine (Q_aload_n zm_72 (Or.inl (by decide)) D72_0 rfl).trans ?_
  refine (Q_getR (q := (w0 + 3)) zm_72 (Or.inl (by decide)) D72_1 zf_8_18 zs_8_4 (zkw_0 hw0).1 (zrw_4 hw0)).trans ?_
  refine (Q_iload_n zm_72 (Or.inl (by decide)) D72_4 rfl).trans ?_
  refine (Q_iload_n zm_72 (Or.inl (by decide)) D72_5 rfl).trans ?_
  refine (Q_iastore zm_72 (Or.inl (by decide)) D72_6 (zkw_3 hw0).1 (zkw_3 hw0).2).trans ?_
  refine zand_c (fun h0_ => ?_)
  refine (Q_aload_n zm_72 (Or.inl (by decide)) D72_7 rfl).trans ?_
  refine (Q_getR (q := (w0 + 4)) zm_72 (Or.inl (by decide)) D72_8 zf_8_21 zs_8_5 (zkw_0 hw0).1 (zrw_5 hw0)).trans ?_
  refine (Q_iload_n zm_72 (Or.inl (by decide)) D72_11 rfl).trans ?_
  refine (Q_iload_n zm_72 (Or.inl (by decide)) D72_12 rfl).trans ?_
  refine ((Q_iastore zm_72 (Or.inl (by decide)) D72_13 (zkw_4 hw0).1 (zkw_4 hw0).2).trans (zdrop h0_)).trans ?_
  refine (Q_aload_n zm_72 (Or.inl (by decide)) D72_14 rfl).trans ?_
  refine (Q_getR (q := (w0 + 1)) zm_72 (Or.inl (by decide)) D72_15 zf_8_9 zs_8_2 (zkw_0 hw0).1 (zrw_2 hw0)).trans ?_
  refine (Q_iload_n zm_72 (Or.inl (by decide)) D72_18 rfl).trans ?_
  refine (Q_dup2 zm_72 (Or.inl (by decide)) D72_19 rfl rfl).trans ?_
  refine (Q_iaload zm_72 (Or.inl (by decide)) D72_20 (zkw_1 hw0).1 (zkw_1 hw0).2).trans ?_
  refine zand_c (fun h1_ => ?_)
  refine (Q_iload zm_72 (Or.inl (by decide)) D72_21 rfl).trans ?_
  refine (Q_isub zm_72 (Or.inl (by decide)) D72_23).trans ?_
  refine ((Q_iastore zm_72 (Or.inl (by decide)) D72_24 (zkw_1 hw0).1 (zkw_1 hw0).2).trans (zdrop h1_)).trans ?_
  refine (Q_aload_n zm_72 (Or.inl (by decide)) D72_25 rfl).trans ?_
  refine (Q_getR (q := (w0 + 1)) zm_72 (Or.inl (by decide)) D72_26 zf_8_9 zs_8_2 (zkw_0 hw0).1 (zrw_2 hw0)).trans ?_
  refine (Q_iload_n zm_72 (Or.inl (by decide)) D72_29 rfl).trans ?_
  refine (Q_sipush (v := 9999) zm_72 (Or.inl (by decide)) D72_30 (by decide)).trans ?_
  refine (Q_aload_n zm_72 (Or.inl (by decide)) D72_33 rfl).trans ?_
  refine (Q_getR (q := (w0 + 1)) zm_72 (Or.inl (by decide)) D72_34 zf_8_9 zs_8_2 (zkw_0 hw0).1 (zrw_2 hw0)).trans ?_
  refine (Q_iload_n zm_72 (Or.inl (by decide)) D72_37 rfl).trans ?_
  refine ((Q_iaload zm_72 (Or.inl (by decide)) D72_38 (zkw_1 hw0).1 (zkw_1 hw0).2).trans (zdrop h0_)).trans ?_
  refine (Q_iload zm_72 (Or.inl (by decide)) D72_39 rfl).trans ?_
  refine (Q_iadd zm_72 (Or.inl (by decide)) D72_41).trans ?_
  refine (Q_bis (as := [.int (9999 : Int32), .int (((zu (zu (zu ia (w0 + 3) (i1).toNatClampNeg i2) (w0 + 4) (i1).toNatClampNeg i3) (w0 + 1) (i2).toNatClampNeg (((zu (zu ia (w0 + 3) (i1).toNatClampNeg i2) (w0 + 4) (i1).toNatClampNeg i3) (w0 + 1) (i2).toNatClampNeg) - i4)) (w0 + 1) (i1).toNatClampNeg) + i4)]) (rest := [.int i1, .ref (w0 + 1)]) zm_72 (Or.inl (by decide)) D72_42 zc_8_79 rfl (by decide) (by simp [zcat, Value.category]) rfl).trans ?_
  refine ((Q_iastore zm_72 (Or.inl (by decide)) D72_45 (zkw_1 hw0).1 (zkw_1 hw0).2).trans (zdrop h0_)).trans ?_
  exact Q_return zm_72 (Or.inl (by decide)) D72_46 rfl

/-! HandsLet$World.drawNumber()I -/
theorem D73_0 : decode prog_10_method_8_code 0 = .ok (.aload_n 0, 1) := by decide +kernel
theorem D73_1 : decode prog_10_method_8_code 1 = .ok (.aload_n 0, 1) := by decide +kernel
theorem D73_2 : decode prog_10_method_8_code 2 = .ok (.getfield 48, 3) := by decide +kernel
theorem D73_5 : decode prog_10_method_8_code 5 = .ok (.ldc2_w 85, 3) := by decide +kernel
theorem D73_8 : decode prog_10_method_8_code 8 = .ok (.lmul, 1) := by decide +kernel
theorem D73_9 : decode prog_10_method_8_code 9 = .ok (.ldc2_w 87, 3) := by decide +kernel
theorem D73_12 : decode prog_10_method_8_code 12 = .ok (.ladd, 1) := by decide +kernel
theorem D73_13 : decode prog_10_method_8_code 13 = .ok (.ldc2_w 89, 3) := by decide +kernel
theorem D73_16 : decode prog_10_method_8_code 16 = .ok (.land, 1) := by decide +kernel
theorem D73_17 : decode prog_10_method_8_code 17 = .ok (.putfield 48, 3) := by decide +kernel
theorem D73_20 : decode prog_10_method_8_code 20 = .ok (.aload_n 0, 1) := by decide +kernel
theorem D73_21 : decode prog_10_method_8_code 21 = .ok (.getfield 48, 3) := by decide +kernel
theorem D73_24 : decode prog_10_method_8_code 24 = .ok (.ldc2_w 91, 3) := by decide +kernel
theorem D73_27 : decode prog_10_method_8_code 27 = .ok (.ldiv, 1) := by decide +kernel
theorem D73_28 : decode prog_10_method_8_code 28 = .ok (.l2i, 1) := by decide +kernel
theorem D73_29 : decode prog_10_method_8_code 29 = .ok (.ireturn, 1) := by decide +kernel

theorem b73_0 {d : Nat} {w0 : Nat} {ia : Nat → Nat → Int32} {la : Nat → Nat → Int64} {pl dr : Nat} {cp : Option Nat} {cw : Option Nat} {rp : Option Nat} {K : Option Value → zHP → Prop} (hw0 : zIsW w0) : zWP d 73 0 [some (.ref w0)] [] (ia, la, zRA pl dr cp cw rp) K = K (some (.int ((((zu la w0 1 ((((la w0 1) * (1103515245 : Int64)) + (12345 : Int64)) &&& (2147483647 : Int64))) w0 1) / (65536 : Int64))).toInt32)) (ia, (zu la w0 1 ((((la w0 1) * (1103515245 : Int64)) + (12345 : Int64)) &&& (2147483647 : Int64))), zRA pl dr cp cw rp) := by
  refine (Q_aload_n zm_73 (Or.inl (by decide)) D73_0 rfl).trans ?_
  refine (Q_aload_n zm_73 (Or.inl (by decide)) D73_1 rfl).trans ?_
  refine (Q_getJ zm_73 (Or.inl (by decide)) D73_2 zf_8_48 zs_8_1 (zkw_0 hw0).1).trans ?_
  refine (Q_ldc2_w (v := 1103515245) zm_73 (Or.inl (by decide)) D73_5 (by decide +kernel)).trans ?_
  refine (Q_lmul zm_73 (Or.inl (by decide)) D73_8).trans ?_
  refine (Q_ldc2_w (v := 12345) zm_73 (Or.inl (by decide)) D73_9 (by decide +kernel)).trans ?_
  refine (Q_ladd zm_73 (Or.inl (by decide)) D73_12).trans ?_
  refine (Q_ldc2_w (v := 2147483647) zm_73 (Or.inl (by decide)) D73_13 (by decide +kernel)).trans ?_
  refine (Q_land zm_73 (Or.inl (by decide)) D73_16).trans ?_
  refine (Q_putJ zm_73 (Or.inl (by decide)) D73_17 zf_8_48 zs_8_1 rfl (zkw_0 hw0).1).trans ?_
  refine (Q_aload_n zm_73 (Or.inl (by decide)) D73_20 rfl).trans ?_
  refine (Q_getJ zm_73 (Or.inl (by decide)) D73_21 zf_8_48 zs_8_1 (zkw_0 hw0).1).trans ?_
  refine (Q_ldc2_w (v := 65536) zm_73 (Or.inl (by decide)) D73_24 (by decide +kernel)).trans ?_
  refine (Q_ldiv zm_73 (Or.inl (by decide)) D73_27 (by decide)).trans ?_
  refine (Q_l2i zm_73 (Or.inl (by decide)) D73_28).trans ?_
  exact Q_ireturn zm_73 (Or.inl (by decide)) D73_29 rfl

/-! HandsLet$World.pursesInSum()I -/
theorem D74_0 : decode prog_10_method_9_code 0 = .ok (.iconst 0, 1) := by decide +kernel
theorem D74_1 : decode prog_10_method_9_code 1 = .ok (.istore_n 1, 1) := by decide +kernel
theorem D74_2 : decode prog_10_method_9_code 2 = .ok (.aload_n 0, 1) := by decide +kernel
theorem D74_3 : decode prog_10_method_9_code 3 = .ok (.getfield 9, 3) := by decide +kernel
theorem D74_6 : decode prog_10_method_9_code 6 = .ok (.astore_n 2, 1) := by decide +kernel
theorem D74_7 : decode prog_10_method_9_code 7 = .ok (.aload_n 2, 1) := by decide +kernel
theorem D74_8 : decode prog_10_method_9_code 8 = .ok (.arraylength, 1) := by decide +kernel
theorem D74_9 : decode prog_10_method_9_code 9 = .ok (.istore_n 3, 1) := by decide +kernel
theorem D74_10 : decode prog_10_method_9_code 10 = .ok (.iconst 0, 1) := by decide +kernel
theorem D74_11 : decode prog_10_method_9_code 11 = .ok (.istore 4, 2) := by decide +kernel
theorem D74_13 : decode prog_10_method_9_code 13 = .ok (.iload 4, 2) := by decide +kernel
theorem D74_15 : decode prog_10_method_9_code 15 = .ok (.iload_n 3, 1) := by decide +kernel
theorem D74_16 : decode prog_10_method_9_code 16 = .ok (.if_icmp .ge 20, 3) := by decide +kernel
theorem D74_19 : decode prog_10_method_9_code 19 = .ok (.aload_n 2, 1) := by decide +kernel
theorem D74_20 : decode prog_10_method_9_code 20 = .ok (.iload 4, 2) := by decide +kernel
theorem D74_22 : decode prog_10_method_9_code 22 = .ok (.iaload, 1) := by decide +kernel
theorem D74_23 : decode prog_10_method_9_code 23 = .ok (.istore 5, 2) := by decide +kernel
theorem D74_25 : decode prog_10_method_9_code 25 = .ok (.iload_n 1, 1) := by decide +kernel
theorem D74_26 : decode prog_10_method_9_code 26 = .ok (.iload 5, 2) := by decide +kernel
theorem D74_28 : decode prog_10_method_9_code 28 = .ok (.iadd, 1) := by decide +kernel
theorem D74_29 : decode prog_10_method_9_code 29 = .ok (.istore_n 1, 1) := by decide +kernel
theorem D74_30 : decode prog_10_method_9_code 30 = .ok (.iinc 4 1, 3) := by decide +kernel
theorem D74_33 : decode prog_10_method_9_code 33 = .ok (.goto (-20), 3) := by decide +kernel
theorem D74_36 : decode prog_10_method_9_code 36 = .ok (.iload_n 1, 1) := by decide +kernel
theorem D74_37 : decode prog_10_method_9_code 37 = .ok (.ireturn, 1) := by decide +kernel

theorem b74_0 {d : Nat} {w0 : Nat} {ia : Nat → Nat → Int32} {la : Nat → Nat → Int64} {pl dr : Nat} {cp : Option Nat} {cw : Option Nat} {rp : Option Nat} {K : Option Value → zHP → Prop} (hw0 : zIsW w0) : zWP d 74 0 [some (.ref w0), none, none, none, none, none] [] (ia, la, zRA pl dr cp cw rp) K = zWP d 74 13 [some (.ref w0), some (.int (0 : Int32)), some (.ref (w0 + 1)), some (.int (6 : Int32)), some (.int (0 : Int32)), none] [] (ia, la, zRA pl dr cp cw rp) K := by
  refine (Q_iconst (v := 0) zm_74 (Or.inl (by decide)) D74_0 (by decide)).trans ?_
  refine (Q_istore_n (ls' := [some (.ref w0), some (.int (0 : Int32)), none, none, none, none]) zm_74 (Or.inl (by decide)) D74_1 rfl (Nat.le_of_ble_eq_true rfl) rfl).trans ?_
  refine (Q_aload_n zm_74 (Or.inl (by decide)) D74_2 rfl).trans ?_
  refine (Q_getR (q := (w0 + 1)) zm_74 (Or.inl (by decide)) D74_3 zf_8_9 zs_8_2 (zkw_0 hw0).1 (zrw_2 hw0)).trans ?_
  refine (Q_astore_n (ls' := [some (.ref w0), some (.int (0 : Int32)), some (.ref (w0 + 1)), none, none, none]) zm_74 (Or.inl (by decide)) D74_6 rfl (Nat.le_of_ble_eq_true rfl) rfl).trans ?_
  refine (Q_aload_n zm_74 (Or.inl (by decide)) D74_7 rfl).trans ?_
  refine (Q_alen (v := 6) zm_74 (Or.inl (by decide)) D74_8 (zkw_1 hw0).1 (by decide) (zkw_1 hw0).2 (by decide)).trans ?_
  refine (Q_istore_n (ls' := [some (.ref w0), some (.int (0 : Int32)), some (.ref (w0 + 1)), some (.int (6 : Int32)), none, none]) zm_74 (Or.inl (by decide)) D74_9 rfl (Nat.le_of_ble_eq_true rfl) rfl).trans ?_
  refine (Q_iconst (v := 0) zm_74 (Or.inl (by decide)) D74_10 (by decide)).trans ?_
  refine (Q_istore (ls' := [some (.ref w0), some (.int (0 : Int32)), some (.ref (w0 + 1)), some (.int (6 : Int32)), some (.int (0 : Int32)), none]) zm_74 (Or.inl (by decide)) D74_11 rfl (Nat.le_of_ble_eq_true rfl) rfl).trans ?_
  rfl

theorem b74_13 {d : Nat} {w0 : Nat} {i1 : Int32} {r2 : Nat} {i3 : Int32} {i4 : Int32} {a5 : Option Value} {ia : Nat → Nat → Int32} {la : Nat → Nat → Int64} {pl dr : Nat} {cp : Option Nat} {cw : Option Nat} {rp : Option Nat} {K : Option Value → zHP → Prop} (hw0 : zIsW w0) : zWP d 74 13 [some (.ref w0), some (.int i1), some (.ref r2), some (.int i3), some (.int i4), a5] [] (ia, la, zRA pl dr cp cw rp) K = (if i3 ≤ i4 then K (some (.int i1)) (ia, la, zRA pl dr cp cw rp) else ((zkd r2 = 100 ∧ vp_in i4 (zln r2)) ∧ zWP d 74 13 [some (.ref w0), some (.int (i1 + (ia r2 (i4).toNatClampNeg))), some (.ref r2), some (.int i3), some (.int (i4 + (1 : Int32))), some (.int (ia r2 (i4).toNatClampNeg))] [] (ia, la, zRA pl dr cp cw rp) K)) := by
  refine (Q_iload zm_74 (Or.inl (by decide)) D74_13 rfl).trans ?_
  refine (Q_iload_n zm_74 (Or.inl (by decide)) D74_15 rfl).trans ?_
  refine (Q_ic_ge (tgt := 36) zm_74 (Or.inl (by decide)) D74_16 (by decide)).trans ?_
  refine zif_c (fun h0_ => ?_) (fun h0_ => ?_)
  · refine (Q_iload_n zm_74 (Or.inl (by decide)) D74_36 rfl).trans ?_
    exact Q_ireturn zm_74 (Or.inl (by decide)) D74_37 rfl
  · refine (Q_aload_n zm_74 (Or.inl (by decide)) D74_19 rfl).trans ?_
    refine (Q_iload zm_74 (Or.inl (by decide)) D74_20 rfl).trans ?_
    refine (Q_ialoadV zm_74 (Or.inl (by decide)) D74_22 (by decide)).trans ?_
    refine zand_c (fun h1_ => ?_)
    refine (Q_istore (ls' := [some (.ref w0), some (.int i1), some (.ref r2), some (.int i3), some (.int i4), some (.int (ia r2 (i4).toNatClampNeg))]) zm_74 (Or.inl (by decide)) D74_23 rfl (Nat.le_of_ble_eq_true rfl) rfl).trans ?_
    refine (Q_iload_n zm_74 (Or.inl (by decide)) D74_25 rfl).trans ?_
    refine (Q_iload zm_74 (Or.inl (by decide)) D74_26 rfl).trans ?_
    refine (Q_iadd zm_74 (Or.inl (by decide)) D74_28).trans ?_
    refine (Q_istore_n (ls' := [some (.ref w0), some (.int (i1 + (ia r2 (i4).toNatClampNeg))), some (.ref r2), some (.int i3), some (.int i4), some (.int (ia r2 (i4).toNatClampNeg))]) zm_74 (Or.inl (by decide)) D74_29 rfl (Nat.le_of_ble_eq_true rfl) rfl).trans ?_
    refine (Q_iinc (v := 1) (ls' := [some (.ref w0), some (.int (i1 + (ia r2 (i4).toNatClampNeg))), some (.ref r2), some (.int i3), some (.int (i4 + (1 : Int32))), some (.int (ia r2 (i4).toNatClampNeg))]) zm_74 (Or.inl (by decide)) D74_30 rfl rfl (by decide) rfl).trans ?_
    refine (Q_goto (tgt := 13) zm_74 (Or.inl (by decide)) D74_33 (by decide)).trans ?_
    rfl

/-! HandsLet$World.handsLet()I -/
theorem D75_0 : decode prog_10_method_10_code 0 = .ok (.iconst 0, 1) := by decide +kernel
theorem D75_1 : decode prog_10_method_10_code 1 = .ok (.istore_n 1, 1) := by decide +kernel
theorem D75_2 : decode prog_10_method_10_code 2 = .ok (.iconst 0, 1) := by decide +kernel
theorem D75_3 : decode prog_10_method_10_code 3 = .ok (.istore_n 2, 1) := by decide +kernel
theorem D75_4 : decode prog_10_method_10_code 4 = .ok (.iload_n 2, 1) := by decide +kernel
theorem D75_5 : decode prog_10_method_10_code 5 = .ok (.bipush 6, 2) := by decide +kernel
theorem D75_7 : decode prog_10_method_10_code 7 = .ok (.if_icmp .ge 20, 3) := by decide +kernel
theorem D75_10 : decode prog_10_method_10_code 10 = .ok (.aload_n 0, 1) := by decide +kernel
theorem D75_11 : decode prog_10_method_10_code 11 = .ok (.iload_n 2, 1) := by decide +kernel
theorem D75_12 : decode prog_10_method_10_code 12 = .ok (.invokevirtual 75, 3) := by decide +kernel
theorem D75_15 : decode prog_10_method_10_code 15 = .ok (.ifCond .eq 6, 3) := by decide +kernel
theorem D75_18 : decode prog_10_method_10_code 18 = .ok (.iinc 1 1, 3) := by decide +kernel
theorem D75_21 : decode prog_10_method_10_code 21 = .ok (.iinc 2 1, 3) := by decide +kernel
theorem D75_24 : decode prog_10_method_10_code 24 = .ok (.goto (-20), 3) := by decide +kernel
theorem D75_27 : decode prog_10_method_10_code 27 = .ok (.iload_n 1, 1) := by decide +kernel
theorem D75_28 : decode prog_10_method_10_code 28 = .ok (.ireturn, 1) := by decide +kernel

theorem b75_0 {d : Nat} {w0 : Nat} {ia : Nat → Nat → Int32} {la : Nat → Nat → Int64} {pl dr : Nat} {cp : Option Nat} {cw : Option Nat} {rp : Option Nat} {K : Option Value → zHP → Prop} (hw0 : zIsW w0) : zWP d 75 0 [some (.ref w0), none, none] [] (ia, la, zRA pl dr cp cw rp) K = zWP d 75 4 [some (.ref w0), some (.int (0 : Int32)), some (.int (0 : Int32))] [] (ia, la, zRA pl dr cp cw rp) K := by
  refine (Q_iconst (v := 0) zm_75 (Or.inl (by decide)) D75_0 (by decide)).trans ?_
  refine (Q_istore_n (ls' := [some (.ref w0), some (.int (0 : Int32)), none]) zm_75 (Or.inl (by decide)) D75_1 rfl (Nat.le_of_ble_eq_true rfl) rfl).trans ?_
  refine (Q_iconst (v := 0) zm_75 (Or.inl (by decide)) D75_2 (by decide)).trans ?_
  refine (Q_istore_n (ls' := [some (.ref w0), some (.int (0 : Int32)), some (.int (0 : Int32))]) zm_75 (Or.inl (by decide)) D75_3 rfl (Nat.le_of_ble_eq_true rfl) rfl).trans ?_
  rfl

theorem b75_4 {d : Nat} {w0 : Nat} {i1 : Int32} {i2 : Int32} {ia : Nat → Nat → Int32} {la : Nat → Nat → Int64} {pl dr : Nat} {cp : Option Nat} {cw : Option Nat} {rp : Option Nat} {K : Option Value → zHP → Prop} (hw0 : zIsW w0) : zWP (d + 1) 75 4 [some (.ref w0), some (.int i1), some (.int i2)] [] (ia, la, zRA pl dr cp cw rp) K = (if (6 : Int32) ≤ i2 then K (some (.int i1)) (ia, la, zRA pl dr cp cw rp) else zWM d 69 [.ref w0, .int i2] (ia, la, zRA pl dr cp cw rp) (zK (d + 1) 75 15 [some (.ref w0), some (.int i1), some (.int i2)] [] K)) := by
  refine (Q_iload_n zm_75 (Or.inl (by decide)) D75_4 rfl).trans ?_
  refine (Q_bipush (v := 6) zm_75 (Or.inl (by decide)) D75_5 (by decide)).trans ?_
  refine (Q_ic_ge (tgt := 27) zm_75 (Or.inl (by decide)) D75_7 (by decide)).trans ?_
  refine zif_c (fun h0_ => ?_) (fun h0_ => ?_)
  · refine (Q_iload_n zm_75 (Or.inl (by decide)) D75_27 rfl).trans ?_
    exact Q_ireturn zm_75 (Or.inl (by decide)) D75_28 rfl
  · refine (Q_aload_n zm_75 (Or.inl (by decide)) D75_10 rfl).trans ?_
    refine (Q_iload_n zm_75 (Or.inl (by decide)) D75_11 rfl).trans ?_
    exact Q_callv (as := [.int i2]) (b := w0) (rest := []) zm_75 (Or.inl (by decide)) D75_12 zc_8_75 rfl (zkw_0 hw0).1 (by decide) (by decide +kernel) (by decide) (by simp [zcat, Value.category]) zm_69 rfl

theorem b75_15 {d : Nat} {w0 : Nat} {i1 : Int32} {i2 : Int32} {s0 : Int32} {ia : Nat → Nat → Int32} {la : Nat → Nat → Int64} {pl dr : Nat} {cp : Option Nat} {cw : Option Nat} {rp : Option Nat} {K : Option Value → zHP → Prop} (hw0 : zIsW w0) : zWP d 75 15 [some (.ref w0), some (.int i1), some (.int i2)] [.int s0] (ia, la, zRA pl dr cp cw rp) K = (if s0 = 0 then zWP d 75 4 [some (.ref w0), some (.int i1), some (.int (i2 + (1 : Int32)))] [] (ia, la, zRA pl dr cp cw rp) K else zWP d 75 4 [some (.ref w0), some (.int (i1 + (1 : Int32))), some (.int (i2 + (1 : Int32)))] [] (ia, la, zRA pl dr cp cw rp) K) := by
  refine (Q_if_eq (tgt := 21) zm_75 (Or.inl (by decide)) D75_15 (by decide)).trans ?_
  refine zif_c (fun h0_ => ?_) (fun h0_ => ?_)
  · refine (Q_iinc (v := 1) (ls' := [some (.ref w0), some (.int i1), some (.int (i2 + (1 : Int32)))]) zm_75 (Or.inl (by decide)) D75_21 rfl rfl (by decide) rfl).trans ?_
    refine (Q_goto (tgt := 4) zm_75 (Or.inl (by decide)) D75_24 (by decide)).trans ?_
    rfl
  · refine (Q_iinc (v := 1) (ls' := [some (.ref w0), some (.int (i1 + (1 : Int32))), some (.int i2)]) zm_75 (Or.inl (by decide)) D75_18 rfl rfl (by decide) rfl).trans ?_
    refine (Q_iinc (v := 1) (ls' := [some (.ref w0), some (.int (i1 + (1 : Int32))), some (.int (i2 + (1 : Int32)))]) zm_75 (Or.inl (by decide)) D75_21 rfl rfl (by decide) rfl).trans ?_
    refine (Q_goto (tgt := 4) zm_75 (Or.inl (by decide)) D75_24 (by decide)).trans ?_
    rfl

/-! HandsLet.feed(IIIII)I -/
theorem D76_0 : decode prog_1_method_2_code 0 = .ok (.aload_n 0, 1) := by decide +kernel
theorem D76_1 : decode prog_1_method_2_code 1 = .ok (.getfield 12, 3) := by decide +kernel
theorem D76_4 : decode prog_1_method_2_code 4 = .ok (.getfield 73, 3) := by decide +kernel
theorem D76_7 : decode prog_1_method_2_code 7 = .ok (.astore 6, 2) := by decide +kernel
theorem D76_9 : decode prog_1_method_2_code 9 = .ok (.aload 6, 2) := by decide +kernel
theorem D76_11 : decode prog_1_method_2_code 11 = .ok (.getfield 77, 3) := by decide +kernel
theorem D76_14 : decode prog_1_method_2_code 14 = .ok (.sipush 680, 3) := by decide +kernel
theorem D76_17 : decode prog_1_method_2_code 17 = .ok (.if_icmp .le 5, 3) := by decide +kernel
theorem D76_20 : decode prog_1_method_2_code 20 = .ok (.iconst (-1), 1) := by decide +kernel
theorem D76_21 : decode prog_1_method_2_code 21 = .ok (.ireturn, 1) := by decide +kernel
theorem D76_22 : decode prog_1_method_2_code 22 = .ok (.aload 6, 2) := by decide +kernel
theorem D76_24 : decode prog_1_method_2_code 24 = .ok (.iload_n 1, 1) := by decide +kernel
theorem D76_25 : decode prog_1_method_2_code 25 = .ok (.invokevirtual 83, 3) := by decide +kernel
theorem D76_28 : decode prog_1_method_2_code 28 = .ok (.aload 6, 2) := by decide +kernel
theorem D76_30 : decode prog_1_method_2_code 30 = .ok (.iload_n 2, 1) := by decide +kernel
theorem D76_31 : decode prog_1_method_2_code 31 = .ok (.invokevirtual 83, 3) := by decide +kernel
theorem D76_34 : decode prog_1_method_2_code 34 = .ok (.aload 6, 2) := by decide +kernel
theorem D76_36 : decode prog_1_method_2_code 36 = .ok (.iload_n 3, 1) := by decide +kernel
theorem D76_37 : decode prog_1_method_2_code 37 = .ok (.invokevirtual 83, 3) := by decide +kernel
theorem D76_40 : decode prog_1_method_2_code 40 = .ok (.aload 6, 2) := by decide +kernel
theorem D76_42 : decode prog_1_method_2_code 42 = .ok (.iload 4, 2) := by decide +kernel
theorem D76_44 : decode prog_1_method_2_code 44 = .ok (.invokevirtual 83, 3) := by decide +kernel
theorem D76_47 : decode prog_1_method_2_code 47 = .ok (.aload 6, 2) := by decide +kernel
theorem D76_49 : decode prog_1_method_2_code 49 = .ok (.iload 5, 2) := by decide +kernel
theorem D76_51 : decode prog_1_method_2_code 51 = .ok (.invokevirtual 83, 3) := by decide +kernel
theorem D76_54 : decode prog_1_method_2_code 54 = .ok (.aload 6, 2) := by decide +kernel
theorem D76_56 : decode prog_1_method_2_code 56 = .ok (.getfield 77, 3) := by decide +kernel
theorem D76_59 : decode prog_1_method_2_code 59 = .ok (.ireturn, 1) := by decide +kernel

theorem b76_0 {d : Nat} {i1 : Int32} {i2 : Int32} {i3 : Int32} {i4 : Int32} {i5 : Int32} {ia : Nat → Nat → Int32} {la : Nat → Nat → Int64} {pl dr : Nat} {cp : Option Nat} {cw : Option Nat} {rp : Option Nat} {K : Option Value → zHP → Prop}  : zWP (d + 1) 76 0 [some (.ref 0), some (.int i1), some (.int i2), some (.int i3), some (.int i4), some (.int i5), none] [] (ia, la, zRA pl dr cp cw rp) K = (if (ia 2 1) ≤ (680 : Int32) then zWM d 57 [.ref 2, .int i1] (ia, la, zRA pl dr cp cw rp) (zK (d + 1) 76 28 [some (.ref 0), some (.int i1), some (.int i2), some (.int i3), some (.int i4), some (.int i5), some (.ref 2)] [] K) else K (some (.int (-1 : Int32))) (ia, la, zRA pl dr cp cw rp)) := by
  refine (Q_aload_n zm_76 (Or.inl (by decide)) D76_0 rfl).trans ?_
  refine (Q_getR (q := 1) zm_76 (Or.inl (by decide)) D76_1 zf_9_12 zs_9_0 zk_0.1 rfl).trans ?_
  refine (Q_getR (q := 2) zm_76 (Or.inl (by decide)) D76_4 zf_9_73 zs_4_0 zk_1.1 rfl).trans ?_
  refine (Q_astore (ls' := [some (.ref 0), some (.int i1), some (.int i2), some (.int i3), some (.int i4), some (.int i5), some (.ref 2)]) zm_76 (Or.inl (by decide)) D76_7 rfl (Nat.le_of_ble_eq_true rfl) rfl).trans ?_
  refine (Q_aload zm_76 (Or.inl (by decide)) D76_9 rfl).trans ?_
  refine (Q_getI zm_76 (Or.inl (by decide)) D76_11 zf_9_77 (Or.inl zs_7_1) zk_2.1).trans ?_
  refine (Q_sipush (v := 680) zm_76 (Or.inl (by decide)) D76_14 (by decide)).trans ?_
  refine (Q_ic_le (tgt := 22) zm_76 (Or.inl (by decide)) D76_17 (by decide)).trans ?_
  refine zif_c (fun h0_ => ?_) (fun h0_ => ?_)
  · refine (Q_aload zm_76 (Or.inl (by decide)) D76_22 rfl).trans ?_
    refine (Q_iload_n zm_76 (Or.inl (by decide)) D76_24 rfl).trans ?_
    exact Q_callv (as := [.int i1]) (b := 2) (rest := []) zm_76 (Or.inl (by decide)) D76_25 zc_9_83 rfl zk_2.1 (by decide) (by decide +kernel) (by decide) (by simp [zcat, Value.category]) zm_57 rfl
  · refine (Q_iconst (v := -1) zm_76 (Or.inl (by decide)) D76_20 (by decide)).trans ?_
    exact Q_ireturn zm_76 (Or.inl (by decide)) D76_21 rfl

theorem b76_28 {d : Nat} {i1 : Int32} {i2 : Int32} {i3 : Int32} {i4 : Int32} {i5 : Int32} {ia : Nat → Nat → Int32} {la : Nat → Nat → Int64} {pl dr : Nat} {cp : Option Nat} {cw : Option Nat} {rp : Option Nat} {K : Option Value → zHP → Prop}  : zWP (d + 1) 76 28 [some (.ref 0), some (.int i1), some (.int i2), some (.int i3), some (.int i4), some (.int i5), some (.ref 2)] [] (ia, la, zRA pl dr cp cw rp) K = zWM d 57 [.ref 2, .int i2] (ia, la, zRA pl dr cp cw rp) (zK (d + 1) 76 34 [some (.ref 0), some (.int i1), some (.int i2), some (.int i3), some (.int i4), some (.int i5), some (.ref 2)] [] K) := by
  refine (Q_aload zm_76 (Or.inl (by decide)) D76_28 rfl).trans ?_
  refine (Q_iload_n zm_76 (Or.inl (by decide)) D76_30 rfl).trans ?_
  exact Q_callv (as := [.int i2]) (b := 2) (rest := []) zm_76 (Or.inl (by decide)) D76_31 zc_9_83 rfl zk_2.1 (by decide) (by decide +kernel) (by decide) (by simp [zcat, Value.category]) zm_57 rfl

theorem b76_34 {d : Nat} {i1 : Int32} {i2 : Int32} {i3 : Int32} {i4 : Int32} {i5 : Int32} {ia : Nat → Nat → Int32} {la : Nat → Nat → Int64} {pl dr : Nat} {cp : Option Nat} {cw : Option Nat} {rp : Option Nat} {K : Option Value → zHP → Prop}  : zWP (d + 1) 76 34 [some (.ref 0), some (.int i1), some (.int i2), some (.int i3), some (.int i4), some (.int i5), some (.ref 2)] [] (ia, la, zRA pl dr cp cw rp) K = zWM d 57 [.ref 2, .int i3] (ia, la, zRA pl dr cp cw rp) (zK (d + 1) 76 40 [some (.ref 0), some (.int i1), some (.int i2), some (.int i3), some (.int i4), some (.int i5), some (.ref 2)] [] K) := by
  refine (Q_aload zm_76 (Or.inl (by decide)) D76_34 rfl).trans ?_
  refine (Q_iload_n zm_76 (Or.inl (by decide)) D76_36 rfl).trans ?_
  exact Q_callv (as := [.int i3]) (b := 2) (rest := []) zm_76 (Or.inl (by decide)) D76_37 zc_9_83 rfl zk_2.1 (by decide) (by decide +kernel) (by decide) (by simp [zcat, Value.category]) zm_57 rfl

theorem b76_40 {d : Nat} {i1 : Int32} {i2 : Int32} {i3 : Int32} {i4 : Int32} {i5 : Int32} {ia : Nat → Nat → Int32} {la : Nat → Nat → Int64} {pl dr : Nat} {cp : Option Nat} {cw : Option Nat} {rp : Option Nat} {K : Option Value → zHP → Prop}  : zWP (d + 1) 76 40 [some (.ref 0), some (.int i1), some (.int i2), some (.int i3), some (.int i4), some (.int i5), some (.ref 2)] [] (ia, la, zRA pl dr cp cw rp) K = zWM d 57 [.ref 2, .int i4] (ia, la, zRA pl dr cp cw rp) (zK (d + 1) 76 47 [some (.ref 0), some (.int i1), some (.int i2), some (.int i3), some (.int i4), some (.int i5), some (.ref 2)] [] K) := by
  refine (Q_aload zm_76 (Or.inl (by decide)) D76_40 rfl).trans ?_
  refine (Q_iload zm_76 (Or.inl (by decide)) D76_42 rfl).trans ?_
  exact Q_callv (as := [.int i4]) (b := 2) (rest := []) zm_76 (Or.inl (by decide)) D76_44 zc_9_83 rfl zk_2.1 (by decide) (by decide +kernel) (by decide) (by simp [zcat, Value.category]) zm_57 rfl

theorem b76_47 {d : Nat} {i1 : Int32} {i2 : Int32} {i3 : Int32} {i4 : Int32} {i5 : Int32} {ia : Nat → Nat → Int32} {la : Nat → Nat → Int64} {pl dr : Nat} {cp : Option Nat} {cw : Option Nat} {rp : Option Nat} {K : Option Value → zHP → Prop}  : zWP (d + 1) 76 47 [some (.ref 0), some (.int i1), some (.int i2), some (.int i3), some (.int i4), some (.int i5), some (.ref 2)] [] (ia, la, zRA pl dr cp cw rp) K = zWM d 57 [.ref 2, .int i5] (ia, la, zRA pl dr cp cw rp) (zK (d + 1) 76 54 [some (.ref 0), some (.int i1), some (.int i2), some (.int i3), some (.int i4), some (.int i5), some (.ref 2)] [] K) := by
  refine (Q_aload zm_76 (Or.inl (by decide)) D76_47 rfl).trans ?_
  refine (Q_iload zm_76 (Or.inl (by decide)) D76_49 rfl).trans ?_
  exact Q_callv (as := [.int i5]) (b := 2) (rest := []) zm_76 (Or.inl (by decide)) D76_51 zc_9_83 rfl zk_2.1 (by decide) (by decide +kernel) (by decide) (by simp [zcat, Value.category]) zm_57 rfl

theorem b76_54 {d : Nat} {i1 : Int32} {i2 : Int32} {i3 : Int32} {i4 : Int32} {i5 : Int32} {ia : Nat → Nat → Int32} {la : Nat → Nat → Int64} {pl dr : Nat} {cp : Option Nat} {cw : Option Nat} {rp : Option Nat} {K : Option Value → zHP → Prop}  : zWP d 76 54 [some (.ref 0), some (.int i1), some (.int i2), some (.int i3), some (.int i4), some (.int i5), some (.ref 2)] [] (ia, la, zRA pl dr cp cw rp) K = K (some (.int (ia 2 1))) (ia, la, zRA pl dr cp cw rp) := by
  refine (Q_aload zm_76 (Or.inl (by decide)) D76_54 rfl).trans ?_
  refine (Q_getI zm_76 (Or.inl (by decide)) D76_56 zf_9_77 (Or.inl zs_7_1) zk_2.1).trans ?_
  exact Q_ireturn zm_76 (Or.inl (by decide)) D76_59 rfl

/-! HandsLet.text(I)I -/
theorem D77_0 : decode prog_1_method_3_code 0 = .ok (.iload_n 1, 1) := by decide +kernel
theorem D77_1 : decode prog_1_method_3_code 1 = .ok (.ifCond .lt 17, 3) := by decide +kernel
theorem D77_4 : decode prog_1_method_3_code 4 = .ok (.iload_n 1, 1) := by decide +kernel
theorem D77_5 : decode prog_1_method_3_code 5 = .ok (.aload_n 0, 1) := by decide +kernel
theorem D77_6 : decode prog_1_method_3_code 6 = .ok (.getfield 12, 3) := by decide +kernel
theorem D77_9 : decode prog_1_method_3_code 9 = .ok (.getfield 73, 3) := by decide +kernel
theorem D77_12 : decode prog_1_method_3_code 12 = .ok (.getfield 77, 3) := by decide +kernel
theorem D77_15 : decode prog_1_method_3_code 15 = .ok (.if_icmp .le 6, 3) := by decide +kernel
theorem D77_18 : decode prog_1_method_3_code 18 = .ok (.bipush (-2), 2) := by decide +kernel
theorem D77_20 : decode prog_1_method_3_code 20 = .ok (.ireturn, 1) := by decide +kernel
theorem D77_21 : decode prog_1_method_3_code 21 = .ok (.aload_n 0, 1) := by decide +kernel
theorem D77_22 : decode prog_1_method_3_code 22 = .ok (.getfield 12, 3) := by decide +kernel
theorem D77_25 : decode prog_1_method_3_code 25 = .ok (.iload_n 1, 1) := by decide +kernel
theorem D77_26 : decode prog_1_method_3_code 26 = .ok (.aload_n 0, 1) := by decide +kernel
theorem D77_27 : decode prog_1_method_3_code 27 = .ok (.getfield 25, 3) := by decide +kernel
theorem D77_30 : decode prog_1_method_3_code 30 = .ok (.invokevirtual 87, 3) := by decide +kernel
theorem D77_33 : decode prog_1_method_3_code 33 = .ok (.aload_n 0, 1) := by decide +kernel
theorem D77_34 : decode prog_1_method_3_code 34 = .ok (.getfield 12, 3) := by decide +kernel
theorem D77_37 : decode prog_1_method_3_code 37 = .ok (.getfield 91, 3) := by decide +kernel
theorem D77_40 : decode prog_1_method_3_code 40 = .ok (.ifCond .eq 5, 3) := by decide +kernel
theorem D77_43 : decode prog_1_method_3_code 43 = .ok (.iconst (-1), 1) := by decide +kernel
theorem D77_44 : decode prog_1_method_3_code 44 = .ok (.ireturn, 1) := by decide +kernel
theorem D77_45 : decode prog_1_method_3_code 45 = .ok (.aload_n 0, 1) := by decide +kernel
theorem D77_46 : decode prog_1_method_3_code 46 = .ok (.getfield 21, 3) := by decide +kernel
theorem D77_49 : decode prog_1_method_3_code 49 = .ok (.astore_n 2, 1) := by decide +kernel
theorem D77_50 : decode prog_1_method_3_code 50 = .ok (.aload_n 0, 1) := by decide +kernel
theorem D77_51 : decode prog_1_method_3_code 51 = .ok (.aload_n 0, 1) := by decide +kernel
theorem D77_52 : decode prog_1_method_3_code 52 = .ok (.getfield 25, 3) := by decide +kernel
theorem D77_55 : decode prog_1_method_3_code 55 = .ok (.putfield 21, 3) := by decide +kernel
theorem D77_58 : decode prog_1_method_3_code 58 = .ok (.aload_n 0, 1) := by decide +kernel
theorem D77_59 : decode prog_1_method_3_code 59 = .ok (.aload_n 2, 1) := by decide +kernel
theorem D77_60 : decode prog_1_method_3_code 60 = .ok (.putfield 25, 3) := by decide +kernel
theorem D77_63 : decode prog_1_method_3_code 63 = .ok (.aload_n 0, 1) := by decide +kernel
theorem D77_64 : decode prog_1_method_3_code 64 = .ok (.getfield 31, 3) := by decide +kernel
theorem D77_67 : decode prog_1_method_3_code 67 = .ok (.aload_n 0, 1) := by decide +kernel
theorem D77_68 : decode prog_1_method_3_code 68 = .ok (.getfield 21, 3) := by decide +kernel
theorem D77_71 : decode prog_1_method_3_code 71 = .ok (.invokevirtual 94, 3) := by decide +kernel
theorem D77_74 : decode prog_1_method_3_code 74 = .ok (.aload_n 0, 1) := by decide +kernel
theorem D77_75 : decode prog_1_method_3_code 75 = .ok (.iconst 0, 1) := by decide +kernel
theorem D77_76 : decode prog_1_method_3_code 76 = .ok (.putfield 98, 3) := by decide +kernel
theorem D77_79 : decode prog_1_method_3_code 79 = .ok (.aload_n 0, 1) := by decide +kernel
theorem D77_80 : decode prog_1_method_3_code 80 = .ok (.getfield 51, 3) := by decide +kernel
theorem D77_83 : decode prog_1_method_3_code 83 = .ok (.invokevirtual 102, 3) := by decide +kernel
theorem D77_86 : decode prog_1_method_3_code 86 = .ok (.aload_n 0, 1) := by decide +kernel
theorem D77_87 : decode prog_1_method_3_code 87 = .ok (.getfield 58, 3) := by decide +kernel
theorem D77_90 : decode prog_1_method_3_code 90 = .ok (.invokevirtual 105, 3) := by decide +kernel
theorem D77_93 : decode prog_1_method_3_code 93 = .ok (.aload_n 0, 1) := by decide +kernel
theorem D77_94 : decode prog_1_method_3_code 94 = .ok (.getfield 21, 3) := by decide +kernel
theorem D77_97 : decode prog_1_method_3_code 97 = .ok (.getfield 106, 3) := by decide +kernel
theorem D77_100 : decode prog_1_method_3_code 100 = .ok (.ireturn, 1) := by decide +kernel

theorem b77_0 {d : Nat} {i1 : Int32} {ia : Nat → Nat → Int32} {la : Nat → Nat → Int64} {pl dr : Nat} {cp : Option Nat} {cw : Option Nat} {rp : Option Nat} {K : Option Value → zHP → Prop}  : zWP (d + 1) 77 0 [some (.ref 0), some (.int i1), none] [] (ia, la, zRA pl dr cp cw rp) K = (if i1 < 0 then K (some (.int (-2 : Int32))) (ia, la, zRA pl dr cp cw rp) else (if i1 ≤ (ia 2 1) then zWM d 22 [.ref 1, .int i1, .ref dr] (ia, la, zRA pl dr cp cw rp) (zK (d + 1) 77 33 [some (.ref 0), some (.int i1), none] [] K) else K (some (.int (-2 : Int32))) (ia, la, zRA pl dr cp cw rp))) := by
  refine (Q_iload_n zm_77 (Or.inl (by decide)) D77_0 rfl).trans ?_
  refine (Q_if_lt (tgt := 18) zm_77 (Or.inl (by decide)) D77_1 (by decide)).trans ?_
  refine zif_c (fun h0_ => ?_) (fun h0_ => ?_)
  · refine (Q_bipush (v := -2) zm_77 (Or.inl (by decide)) D77_18 (by decide)).trans ?_
    exact Q_ireturn zm_77 (Or.inl (by decide)) D77_20 rfl
  · refine (Q_iload_n zm_77 (Or.inl (by decide)) D77_4 rfl).trans ?_
    refine (Q_aload_n zm_77 (Or.inl (by decide)) D77_5 rfl).trans ?_
    refine (Q_getR (q := 1) zm_77 (Or.inl (by decide)) D77_6 zf_9_12 zs_9_0 zk_0.1 rfl).trans ?_
    refine (Q_getR (q := 2) zm_77 (Or.inl (by decide)) D77_9 zf_9_73 zs_4_0 zk_1.1 rfl).trans ?_
    refine (Q_getI zm_77 (Or.inl (by decide)) D77_12 zf_9_77 (Or.inl zs_7_1) zk_2.1).trans ?_
    refine (Q_ic_le (tgt := 21) zm_77 (Or.inl (by decide)) D77_15 (by decide)).trans ?_
    refine zif_c (fun h1_ => ?_) (fun h1_ => ?_)
    · refine (Q_aload_n zm_77 (Or.inl (by decide)) D77_21 rfl).trans ?_
      refine (Q_getR (q := 1) zm_77 (Or.inl (by decide)) D77_22 zf_9_12 zs_9_0 zk_0.1 rfl).trans ?_
      refine (Q_iload_n zm_77 (Or.inl (by decide)) D77_25 rfl).trans ?_
      refine (Q_aload_n zm_77 (Or.inl (by decide)) D77_26 rfl).trans ?_
      refine (Q_getR (q := dr) zm_77 (Or.inl (by decide)) D77_27 zf_9_25 zs_9_2 zk_0.1 rfl).trans ?_
      exact Q_callv (as := [.int i1, .ref dr]) (b := 1) (rest := []) zm_77 (Or.inl (by decide)) D77_30 zc_9_87 rfl zk_1.1 (by decide) (by decide +kernel) (by decide) (by simp [zcat, Value.category]) zm_22 rfl
    · refine (Q_bipush (v := -2) zm_77 (Or.inl (by decide)) D77_18 (by decide)).trans ?_
      exact Q_ireturn zm_77 (Or.inl (by decide)) D77_20 rfl

theorem b77_33 {d : Nat} {i1 : Int32} {ia : Nat → Nat → Int32} {la : Nat → Nat → Int64} {pl dr : Nat} {cp : Option Nat} {cw : Option Nat} {rp : Option Nat} {K : Option Value → zHP → Prop}  : zWP (d + 1) 77 33 [some (.ref 0), some (.int i1), none] [] (ia, la, zRA pl dr cp cw rp) K = (if (ia 1 3) = 0 then zWM d 67 [.ref 72, .ref dr] (ia, la, zRA dr pl cp cw rp) (zK (d + 1) 77 74 [some (.ref 0), some (.int i1), some (.ref pl)] [] K) else K (some (.int (-1 : Int32))) (ia, la, zRA pl dr cp cw rp)) := by
  refine (Q_aload_n zm_77 (Or.inl (by decide)) D77_33 rfl).trans ?_
  refine (Q_getR (q := 1) zm_77 (Or.inl (by decide)) D77_34 zf_9_12 zs_9_0 zk_0.1 rfl).trans ?_
  refine (Q_getI zm_77 (Or.inl (by decide)) D77_37 zf_9_91 (Or.inl zs_4_3) zk_1.1).trans ?_
  refine (Q_if_eq (tgt := 45) zm_77 (Or.inl (by decide)) D77_40 (by decide)).trans ?_
  refine zif_c (fun h0_ => ?_) (fun h0_ => ?_)
  · refine (Q_aload_n zm_77 (Or.inl (by decide)) D77_45 rfl).trans ?_
    refine (Q_getR (q := pl) zm_77 (Or.inl (by decide)) D77_46 zf_9_21 zs_9_1 zk_0.1 rfl).trans ?_
    refine (Q_astore_n (ls' := [some (.ref 0), some (.int i1), some (.ref pl)]) zm_77 (Or.inl (by decide)) D77_49 rfl (Nat.le_of_ble_eq_true rfl) rfl).trans ?_
    refine (Q_aload_n zm_77 (Or.inl (by decide)) D77_50 rfl).trans ?_
    refine (Q_aload_n zm_77 (Or.inl (by decide)) D77_51 rfl).trans ?_
    refine (Q_getR (q := dr) zm_77 (Or.inl (by decide)) D77_52 zf_9_25 zs_9_2 zk_0.1 rfl).trans ?_
    refine (Q_putR zm_77 (Or.inl (by decide)) D77_55 zf_9_21 zs_9_1 rfl zk_0.1).trans ?_
    refine (congrArg (fun q => zWP (d + 1) 77 58 [some (.ref 0), some (.int i1), some (.ref pl)] [] (ia, la, q) K) (zRA_pl dr)).trans ?_
    refine (Q_aload_n zm_77 (Or.inl (by decide)) D77_58 rfl).trans ?_
    refine (Q_aload_n zm_77 (Or.inl (by decide)) D77_59 rfl).trans ?_
    refine (Q_putR zm_77 (Or.inl (by decide)) D77_60 zf_9_25 zs_9_2 rfl zk_0.1).trans ?_
    refine (congrArg (fun q => zWP (d + 1) 77 63 [some (.ref 0), some (.int i1), some (.ref pl)] [] (ia, la, q) K) (zRA_dr pl)).trans ?_
    refine (Q_aload_n zm_77 (Or.inl (by decide)) D77_63 rfl).trans ?_
    refine (Q_getR (q := 72) zm_77 (Or.inl (by decide)) D77_64 zf_9_31 zs_9_3 zk_0.1 rfl).trans ?_
    refine (Q_aload_n zm_77 (Or.inl (by decide)) D77_67 rfl).trans ?_
    refine (Q_getR (q := dr) zm_77 (Or.inl (by decide)) D77_68 zf_9_21 zs_9_1 zk_0.1 rfl).trans ?_
    exact Q_callv (as := [.ref dr]) (b := 72) (rest := []) zm_77 (Or.inl (by decide)) D77_71 zc_9_94 rfl zk_72.1 (by decide) (by decide +kernel) (by decide) (by simp [zcat, Value.category]) zm_67 rfl
  · refine (Q_iconst (v := -1) zm_77 (Or.inl (by decide)) D77_43 (by decide)).trans ?_
    exact Q_ireturn zm_77 (Or.inl (by decide)) D77_44 rfl

theorem b77_74 {d : Nat} {i1 : Int32} {p2 : Nat} {ia : Nat → Nat → Int32} {la : Nat → Nat → Int64} {pl dr : Nat} {cp : Option Nat} {cw : Option Nat} {rp : Option Nat} {K : Option Value → zHP → Prop} (hp2 : zIsP p2) : zWP (d + 1) 77 74 [some (.ref 0), some (.int i1), some (.ref p2)] [] (ia, la, zRA pl dr cp cw rp) K = zWM d 43 [.ref 106] ((zu ia 0 6 (0 : Int32)), la, zRA pl dr cp cw rp) (zK (d + 1) 77 86 [some (.ref 0), some (.int i1), some (.ref p2)] [] K) := by
  refine (Q_aload_n zm_77 (Or.inl (by decide)) D77_74 rfl).trans ?_
  refine (Q_iconst (v := 0) zm_77 (Or.inl (by decide)) D77_75 (by decide)).trans ?_
  refine (Q_putZ zm_77 (Or.inl (by decide)) D77_76 zf_9_98 zs_9_6 rfl zk_0.1 (by decide)).trans ?_
  refine (Q_aload_n zm_77 (Or.inl (by decide)) D77_79 rfl).trans ?_
  refine (Q_getR (q := 106) zm_77 (Or.inl (by decide)) D77_80 zf_9_51 zs_9_8 zk_0.1 rfl).trans ?_
  exact Q_callv (as := []) (b := 106) (rest := []) zm_77 (Or.inl (by decide)) D77_83 zc_9_102 rfl zk_106.1 (by decide) (by decide +kernel) (by decide) (by simp [zcat, Value.category]) zm_43 rfl

theorem b77_86 {d : Nat} {i1 : Int32} {p2 : Nat} {ia : Nat → Nat → Int32} {la : Nat → Nat → Int64} {pl dr : Nat} {cp : Option Nat} {cw : Option Nat} {rp : Option Nat} {K : Option Value → zHP → Prop} (hp2 : zIsP p2) : zWP (d + 1) 77 86 [some (.ref 0), some (.int i1), some (.ref p2)] [] (ia, la, zRA pl dr cp cw rp) K = zWM d 11 [.ref 113] (ia, la, zRA pl dr cp cw rp) (zK (d + 1) 77 93 [some (.ref 0), some (.int i1), some (.ref p2)] [] K) := by
  refine (Q_aload_n zm_77 (Or.inl (by decide)) D77_86 rfl).trans ?_
  refine (Q_getR (q := 113) zm_77 (Or.inl (by decide)) D77_87 zf_9_58 zs_9_9 zk_0.1 rfl).trans ?_
  exact Q_callv (as := []) (b := 113) (rest := []) zm_77 (Or.inl (by decide)) D77_90 zc_9_105 rfl zk_113.1 (by decide) (by decide +kernel) (by decide) (by simp [zcat, Value.category]) zm_11 rfl

theorem b77_93 {d : Nat} {i1 : Int32} {p2 : Nat} {ia : Nat → Nat → Int32} {la : Nat → Nat → Int64} {pl dr : Nat} {cp : Option Nat} {cw : Option Nat} {rp : Option Nat} {K : Option Value → zHP → Prop} (hp2 : zIsP p2) (hpl : zIsP pl) : zWP d 77 93 [some (.ref 0), some (.int i1), some (.ref p2)] [] (ia, la, zRA pl dr cp cw rp) K = K (some (.int (ia pl 0))) (ia, la, zRA pl dr cp cw rp) := by
  refine (Q_aload_n zm_77 (Or.inl (by decide)) D77_93 rfl).trans ?_
  refine (Q_getR (q := pl) zm_77 (Or.inl (by decide)) D77_94 zf_9_21 zs_9_1 zk_0.1 rfl).trans ?_
  refine (Q_getI zm_77 (Or.inl (by decide)) D77_97 zf_9_106 (Or.inl zs_3_0) (zkp_0 hpl).1).trans ?_
  exact Q_ireturn zm_77 (Or.inl (by decide)) D77_100 rfl

/-! HandsLet.fault(I)I -/
theorem D78_0 : decode prog_1_method_4_code 0 = .ok (.iload_n 1, 1) := by decide +kernel
theorem D78_1 : decode prog_1_method_4_code 1 = .ok (.ifCond .ne 11, 3) := by decide +kernel
theorem D78_4 : decode prog_1_method_4_code 4 = .ok (.aload_n 0, 1) := by decide +kernel
theorem D78_5 : decode prog_1_method_4_code 5 = .ok (.getfield 12, 3) := by decide +kernel
theorem D78_8 : decode prog_1_method_4_code 8 = .ok (.getfield 91, 3) := by decide +kernel
theorem D78_11 : decode prog_1_method_4_code 11 = .ok (.ireturn, 1) := by decide +kernel
theorem D78_12 : decode prog_1_method_4_code 12 = .ok (.iload_n 1, 1) := by decide +kernel
theorem D78_13 : decode prog_1_method_4_code 13 = .ok (.iconst 1, 1) := by decide +kernel
theorem D78_14 : decode prog_1_method_4_code 14 = .ok (.if_icmp .ne 13, 3) := by decide +kernel
theorem D78_17 : decode prog_1_method_4_code 17 = .ok (.aload_n 0, 1) := by decide +kernel
theorem D78_18 : decode prog_1_method_4_code 18 = .ok (.getfield 12, 3) := by decide +kernel
theorem D78_21 : decode prog_1_method_4_code 21 = .ok (.getfield 109, 3) := by decide +kernel
theorem D78_24 : decode prog_1_method_4_code 24 = .ok (.goto 4, 3) := by decide +kernel
theorem D78_27 : decode prog_1_method_4_code 27 = .ok (.iconst (-1), 1) := by decide +kernel
theorem D78_28 : decode prog_1_method_4_code 28 = .ok (.ireturn, 1) := by decide +kernel

theorem b78_0 {d : Nat} {i1 : Int32} {ia : Nat → Nat → Int32} {la : Nat → Nat → Int64} {pl dr : Nat} {cp : Option Nat} {cw : Option Nat} {rp : Option Nat} {K : Option Value → zHP → Prop}  : zWP d 78 0 [some (.ref 0), some (.int i1)] [] (ia, la, zRA pl dr cp cw rp) K = (if ¬ i1 = 0 then (if ¬ i1 = (1 : Int32) then K (some (.int (-1 : Int32))) (ia, la, zRA pl dr cp cw rp) else K (some (.int (ia 1 4))) (ia, la, zRA pl dr cp cw rp)) else K (some (.int (ia 1 3))) (ia, la, zRA pl dr cp cw rp)) := by
  refine (Q_iload_n zm_78 (Or.inl (by decide)) D78_0 rfl).trans ?_
  refine (Q_if_ne (tgt := 12) zm_78 (Or.inl (by decide)) D78_1 (by decide)).trans ?_
  refine zif_c (fun h0_ => ?_) (fun h0_ => ?_)
  · refine (Q_iload_n zm_78 (Or.inl (by decide)) D78_12 rfl).trans ?_
    refine (Q_iconst (v := 1) zm_78 (Or.inl (by decide)) D78_13 (by decide)).trans ?_
    refine (Q_ic_ne (tgt := 27) zm_78 (Or.inl (by decide)) D78_14 (by decide)).trans ?_
    refine zif_c (fun h1_ => ?_) (fun h1_ => ?_)
    · refine (Q_iconst (v := -1) zm_78 (Or.inl (by decide)) D78_27 (by decide)).trans ?_
      exact Q_ireturn zm_78 (Or.inl (by decide)) D78_28 rfl
    · refine (Q_aload_n zm_78 (Or.inl (by decide)) D78_17 rfl).trans ?_
      refine (Q_getR (q := 1) zm_78 (Or.inl (by decide)) D78_18 zf_9_12 zs_9_0 zk_0.1 rfl).trans ?_
      refine (Q_getI zm_78 (Or.inl (by decide)) D78_21 zf_9_109 (Or.inl zs_4_4) zk_1.1).trans ?_
      refine (Q_goto (tgt := 28) zm_78 (Or.inl (by decide)) D78_24 (by decide)).trans ?_
      exact Q_ireturn zm_78 (Or.inl (by decide)) D78_28 rfl
  · refine (Q_aload_n zm_78 (Or.inl (by decide)) D78_4 rfl).trans ?_
    refine (Q_getR (q := 1) zm_78 (Or.inl (by decide)) D78_5 zf_9_12 zs_9_0 zk_0.1 rfl).trans ?_
    refine (Q_getI zm_78 (Or.inl (by decide)) D78_8 zf_9_91 (Or.inl zs_4_3) zk_1.1).trans ?_
    exact Q_ireturn zm_78 (Or.inl (by decide)) D78_11 rfl

/-! HandsLet.named(I)I -/
theorem D79_0 : decode prog_1_method_5_code 0 = .ok (.aload_n 0, 1) := by decide +kernel
theorem D79_1 : decode prog_1_method_5_code 1 = .ok (.getfield 21, 3) := by decide +kernel
theorem D79_4 : decode prog_1_method_5_code 4 = .ok (.iload_n 1, 1) := by decide +kernel
theorem D79_5 : decode prog_1_method_5_code 5 = .ok (.invokevirtual 112, 3) := by decide +kernel
theorem D79_8 : decode prog_1_method_5_code 8 = .ok (.ireturn, 1) := by decide +kernel

theorem b79_0 {d : Nat} {i1 : Int32} {ia : Nat → Nat → Int32} {la : Nat → Nat → Int64} {pl dr : Nat} {cp : Option Nat} {cw : Option Nat} {rp : Option Nat} {K : Option Value → zHP → Prop} (hpl : zIsP pl) : zWP (d + 1) 79 0 [some (.ref 0), some (.int i1)] [] (ia, la, zRA pl dr cp cw rp) K = zWM d 21 [.ref pl, .int i1] (ia, la, zRA pl dr cp cw rp) (zK (d + 1) 79 8 [some (.ref 0), some (.int i1)] [] K) := by
  refine (Q_aload_n zm_79 (Or.inl (by decide)) D79_0 rfl).trans ?_
  refine (Q_getR (q := pl) zm_79 (Or.inl (by decide)) D79_1 zf_9_21 zs_9_1 zk_0.1 rfl).trans ?_
  refine (Q_iload_n zm_79 (Or.inl (by decide)) D79_4 rfl).trans ?_
  exact Q_callv (as := [.int i1]) (b := pl) (rest := []) zm_79 (Or.inl (by decide)) D79_5 zc_9_112 rfl (zkp_0 hpl).1 (by decide) (by decide +kernel) (by decide) (by simp [zcat, Value.category]) zm_21 rfl

theorem b79_8 {d : Nat} {i1 : Int32} {s0 : Int32} {ia : Nat → Nat → Int32} {la : Nat → Nat → Int64} {pl dr : Nat} {cp : Option Nat} {cw : Option Nat} {rp : Option Nat} {K : Option Value → zHP → Prop}  : zWP d 79 8 [some (.ref 0), some (.int i1)] [.int s0] (ia, la, zRA pl dr cp cw rp) K = K (some (.int s0)) (ia, la, zRA pl dr cp cw rp) := by
  exact Q_ireturn zm_79 (Or.inl (by decide)) D79_8 rfl

/-! HandsLet.isPerson(I)Z -/
theorem D80_0 : decode prog_1_method_6_code 0 = .ok (.iload_n 1, 1) := by decide +kernel
theorem D80_1 : decode prog_1_method_6_code 1 = .ok (.ifCond .lt 18, 3) := by decide +kernel
theorem D80_4 : decode prog_1_method_6_code 4 = .ok (.iload_n 1, 1) := by decide +kernel
theorem D80_5 : decode prog_1_method_6_code 5 = .ok (.aload_n 0, 1) := by decide +kernel
theorem D80_6 : decode prog_1_method_6_code 6 = .ok (.getfield 21, 3) := by decide +kernel
theorem D80_9 : decode prog_1_method_6_code 9 = .ok (.getfield 116, 3) := by decide +kernel
theorem D80_12 : decode prog_1_method_6_code 12 = .ok (.if_icmp .ge 7, 3) := by decide +kernel
theorem D80_15 : decode prog_1_method_6_code 15 = .ok (.iconst 1, 1) := by decide +kernel
theorem D80_16 : decode prog_1_method_6_code 16 = .ok (.goto 4, 3) := by decide +kernel
theorem D80_19 : decode prog_1_method_6_code 19 = .ok (.iconst 0, 1) := by decide +kernel
theorem D80_20 : decode prog_1_method_6_code 20 = .ok (.ireturn, 1) := by decide +kernel

theorem b80_0 {d : Nat} {i1 : Int32} {ia : Nat → Nat → Int32} {la : Nat → Nat → Int64} {pl dr : Nat} {cp : Option Nat} {cw : Option Nat} {rp : Option Nat} {K : Option Value → zHP → Prop} (hpl : zIsP pl) : zWP d 80 0 [some (.ref 0), some (.int i1)] [] (ia, la, zRA pl dr cp cw rp) K = (if i1 < 0 then K (some (.int (0 : Int32))) (ia, la, zRA pl dr cp cw rp) else (if (ia pl 1) ≤ i1 then K (some (.int (0 : Int32))) (ia, la, zRA pl dr cp cw rp) else K (some (.int (1 : Int32))) (ia, la, zRA pl dr cp cw rp))) := by
  refine (Q_iload_n zm_80 (Or.inl (by decide)) D80_0 rfl).trans ?_
  refine (Q_if_lt (tgt := 19) zm_80 (Or.inl (by decide)) D80_1 (by decide)).trans ?_
  refine zif_c (fun h0_ => ?_) (fun h0_ => ?_)
  · refine (Q_iconst (v := 0) zm_80 (Or.inl (by decide)) D80_19 (by decide)).trans ?_
    exact Q_zreturn zm_80 (Or.inl (by decide)) D80_20 rfl (by decide)
  · refine (Q_iload_n zm_80 (Or.inl (by decide)) D80_4 rfl).trans ?_
    refine (Q_aload_n zm_80 (Or.inl (by decide)) D80_5 rfl).trans ?_
    refine (Q_getR (q := pl) zm_80 (Or.inl (by decide)) D80_6 zf_9_21 zs_9_1 zk_0.1 rfl).trans ?_
    refine (Q_getI zm_80 (Or.inl (by decide)) D80_9 zf_9_116 (Or.inl zs_3_1) (zkp_0 hpl).1).trans ?_
    refine (Q_ic_ge (tgt := 19) zm_80 (Or.inl (by decide)) D80_12 (by decide)).trans ?_
    refine zif_c (fun h1_ => ?_) (fun h1_ => ?_)
    · refine (Q_iconst (v := 0) zm_80 (Or.inl (by decide)) D80_19 (by decide)).trans ?_
      exact Q_zreturn zm_80 (Or.inl (by decide)) D80_20 rfl (by decide)
    · refine (Q_iconst (v := 1) zm_80 (Or.inl (by decide)) D80_15 (by decide)).trans ?_
      refine (Q_goto (tgt := 20) zm_80 (Or.inl (by decide)) D80_16 (by decide)).trans ?_
      exact Q_zreturn zm_80 (Or.inl (by decide)) D80_20 rfl (by decide)

/-! HandsLet.isLetter(I)Z -/
theorem D81_0 : decode prog_1_method_7_code 0 = .ok (.iload_n 1, 1) := by decide +kernel
theorem D81_1 : decode prog_1_method_7_code 1 = .ok (.ifCond .lt 18, 3) := by decide +kernel
theorem D81_4 : decode prog_1_method_7_code 4 = .ok (.iload_n 1, 1) := by decide +kernel
theorem D81_5 : decode prog_1_method_7_code 5 = .ok (.aload_n 0, 1) := by decide +kernel
theorem D81_6 : decode prog_1_method_7_code 6 = .ok (.getfield 21, 3) := by decide +kernel
theorem D81_9 : decode prog_1_method_7_code 9 = .ok (.getfield 119, 3) := by decide +kernel
theorem D81_12 : decode prog_1_method_7_code 12 = .ok (.if_icmp .ge 7, 3) := by decide +kernel
theorem D81_15 : decode prog_1_method_7_code 15 = .ok (.iconst 1, 1) := by decide +kernel
theorem D81_16 : decode prog_1_method_7_code 16 = .ok (.goto 4, 3) := by decide +kernel
theorem D81_19 : decode prog_1_method_7_code 19 = .ok (.iconst 0, 1) := by decide +kernel
theorem D81_20 : decode prog_1_method_7_code 20 = .ok (.ireturn, 1) := by decide +kernel

theorem b81_0 {d : Nat} {i1 : Int32} {ia : Nat → Nat → Int32} {la : Nat → Nat → Int64} {pl dr : Nat} {cp : Option Nat} {cw : Option Nat} {rp : Option Nat} {K : Option Value → zHP → Prop} (hpl : zIsP pl) : zWP d 81 0 [some (.ref 0), some (.int i1)] [] (ia, la, zRA pl dr cp cw rp) K = (if i1 < 0 then K (some (.int (0 : Int32))) (ia, la, zRA pl dr cp cw rp) else (if (ia pl 3) ≤ i1 then K (some (.int (0 : Int32))) (ia, la, zRA pl dr cp cw rp) else K (some (.int (1 : Int32))) (ia, la, zRA pl dr cp cw rp))) := by
  refine (Q_iload_n zm_81 (Or.inl (by decide)) D81_0 rfl).trans ?_
  refine (Q_if_lt (tgt := 19) zm_81 (Or.inl (by decide)) D81_1 (by decide)).trans ?_
  refine zif_c (fun h0_ => ?_) (fun h0_ => ?_)
  · refine (Q_iconst (v := 0) zm_81 (Or.inl (by decide)) D81_19 (by decide)).trans ?_
    exact Q_zreturn zm_81 (Or.inl (by decide)) D81_20 rfl (by decide)
  · refine (Q_iload_n zm_81 (Or.inl (by decide)) D81_4 rfl).trans ?_
    refine (Q_aload_n zm_81 (Or.inl (by decide)) D81_5 rfl).trans ?_
    refine (Q_getR (q := pl) zm_81 (Or.inl (by decide)) D81_6 zf_9_21 zs_9_1 zk_0.1 rfl).trans ?_
    refine (Q_getI zm_81 (Or.inl (by decide)) D81_9 zf_9_119 (Or.inl zs_3_3) (zkp_0 hpl).1).trans ?_
    refine (Q_ic_ge (tgt := 19) zm_81 (Or.inl (by decide)) D81_12 (by decide)).trans ?_
    refine zif_c (fun h1_ => ?_) (fun h1_ => ?_)
    · refine (Q_iconst (v := 0) zm_81 (Or.inl (by decide)) D81_19 (by decide)).trans ?_
      exact Q_zreturn zm_81 (Or.inl (by decide)) D81_20 rfl (by decide)
    · refine (Q_iconst (v := 1) zm_81 (Or.inl (by decide)) D81_15 (by decide)).trans ?_
      refine (Q_goto (tgt := 20) zm_81 (Or.inl (by decide)) D81_16 (by decide)).trans ?_
      exact Q_zreturn zm_81 (Or.inl (by decide)) D81_20 rfl (by decide)

/-! HandsLet.man(II)I -/
theorem D82_0 : decode prog_1_method_9_code 0 = .ok (.aload_n 0, 1) := by decide +kernel
theorem D82_1 : decode prog_1_method_9_code 1 = .ok (.iload_n 1, 1) := by decide +kernel
theorem D82_2 : decode prog_1_method_9_code 2 = .ok (.invokevirtual 122, 3) := by decide +kernel
theorem D82_5 : decode prog_1_method_9_code 5 = .ok (.ifCond .ne 5, 3) := by decide +kernel
theorem D82_8 : decode prog_1_method_9_code 8 = .ok (.iconst (-1), 1) := by decide +kernel
theorem D82_9 : decode prog_1_method_9_code 9 = .ok (.ireturn, 1) := by decide +kernel
theorem D82_10 : decode prog_1_method_9_code 10 = .ok (.iload_n 2, 1) := by decide +kernel
theorem D82_11 : decode prog_1_method_9_code 11 = .ok (.tableswitch 73 0 5 #[37, 37, 37, 51, 61, 67], 37) := by decide +kernel
theorem D82_48 : decode prog_1_method_9_code 48 = .ok (.aload_n 0, 1) := by decide +kernel
theorem D82_49 : decode prog_1_method_9_code 49 = .ok (.getfield 21, 3) := by decide +kernel
theorem D82_52 : decode prog_1_method_9_code 52 = .ok (.getfield 147, 3) := by decide +kernel
theorem D82_55 : decode prog_1_method_9_code 55 = .ok (.iload_n 1, 1) := by decide +kernel
theorem D82_56 : decode prog_1_method_9_code 56 = .ok (.iconst 3, 1) := by decide +kernel
theorem D82_57 : decode prog_1_method_9_code 57 = .ok (.imul, 1) := by decide +kernel
theorem D82_58 : decode prog_1_method_9_code 58 = .ok (.iload_n 2, 1) := by decide +kernel
theorem D82_59 : decode prog_1_method_9_code 59 = .ok (.iadd, 1) := by decide +kernel
theorem D82_60 : decode prog_1_method_9_code 60 = .ok (.iaload, 1) := by decide +kernel
theorem D82_61 : decode prog_1_method_9_code 61 = .ok (.ireturn, 1) := by decide +kernel
theorem D82_62 : decode prog_1_method_9_code 62 = .ok (.aload_n 0, 1) := by decide +kernel
theorem D82_63 : decode prog_1_method_9_code 63 = .ok (.getfield 31, 3) := by decide +kernel
theorem D82_66 : decode prog_1_method_9_code 66 = .ok (.getfield 148, 3) := by decide +kernel
theorem D82_69 : decode prog_1_method_9_code 69 = .ok (.iload_n 1, 1) := by decide +kernel
theorem D82_70 : decode prog_1_method_9_code 70 = .ok (.iaload, 1) := by decide +kernel
theorem D82_71 : decode prog_1_method_9_code 71 = .ok (.ireturn, 1) := by decide +kernel
theorem D82_72 : decode prog_1_method_9_code 72 = .ok (.aload_n 0, 1) := by decide +kernel
theorem D82_73 : decode prog_1_method_9_code 73 = .ok (.iload_n 1, 1) := by decide +kernel
theorem D82_74 : decode prog_1_method_9_code 74 = .ok (.invokevirtual 151, 3) := by decide +kernel
theorem D82_77 : decode prog_1_method_9_code 77 = .ok (.ireturn, 1) := by decide +kernel
theorem D82_78 : decode prog_1_method_9_code 78 = .ok (.aload_n 0, 1) := by decide +kernel
theorem D82_79 : decode prog_1_method_9_code 79 = .ok (.iload_n 1, 1) := by decide +kernel
theorem D82_80 : decode prog_1_method_9_code 80 = .ok (.invokevirtual 154, 3) := by decide +kernel
theorem D82_83 : decode prog_1_method_9_code 83 = .ok (.ireturn, 1) := by decide +kernel
theorem D82_84 : decode prog_1_method_9_code 84 = .ok (.iconst (-1), 1) := by decide +kernel
theorem D82_85 : decode prog_1_method_9_code 85 = .ok (.ireturn, 1) := by decide +kernel

theorem b82_0 {d : Nat} {i1 : Int32} {i2 : Int32} {ia : Nat → Nat → Int32} {la : Nat → Nat → Int64} {pl dr : Nat} {cp : Option Nat} {cw : Option Nat} {rp : Option Nat} {K : Option Value → zHP → Prop}  : zWP (d + 1) 82 0 [some (.ref 0), some (.int i1), some (.int i2)] [] (ia, la, zRA pl dr cp cw rp) K = zWM d 80 [.ref 0, .int i1] (ia, la, zRA pl dr cp cw rp) (zK (d + 1) 82 5 [some (.ref 0), some (.int i1), some (.int i2)] [] K) := by
  refine (Q_aload_n zm_82 (Or.inl (by decide)) D82_0 rfl).trans ?_
  refine (Q_iload_n zm_82 (Or.inl (by decide)) D82_1 rfl).trans ?_
  exact Q_callv (as := [.int i1]) (b := 0) (rest := []) zm_82 (Or.inl (by decide)) D82_2 zc_9_122 rfl zk_0.1 (by decide) (by decide +kernel) (by decide) (by simp [zcat, Value.category]) zm_80 rfl

theorem b82_5 {d : Nat} {i1 : Int32} {i2 : Int32} {s0 : Int32} {ia : Nat → Nat → Int32} {la : Nat → Nat → Int64} {pl dr : Nat} {cp : Option Nat} {cw : Option Nat} {rp : Option Nat} {K : Option Value → zHP → Prop}  : zWP (d + 1) 82 5 [some (.ref 0), some (.int i1), some (.int i2)] [.int s0] (ia, la, zRA pl dr cp cw rp) K = (if ¬ s0 = 0 then (if i2 = 0 then zWP (d + 1) 82 48 [some (.ref 0), some (.int i1), some (.int i2)] [] (ia, la, zRA pl dr cp cw rp) K else (if i2 = 1 then zWP (d + 1) 82 48 [some (.ref 0), some (.int i1), some (.int i2)] [] (ia, la, zRA pl dr cp cw rp) K else (if i2 = 2 then zWP (d + 1) 82 48 [some (.ref 0), some (.int i1), some (.int i2)] [] (ia, la, zRA pl dr cp cw rp) K else (if i2 = 3 then (vp_in i1 6 ∧ K (some (.int (ia 73 (i1).toNatClampNeg))) (ia, la, zRA pl dr cp cw rp)) else (if i2 = 4 then zWM d 83 [.ref 0, .int i1] (ia, la, zRA pl dr cp cw rp) (zK (d + 1) 82 77 [some (.ref 0), some (.int i1), some (.int i2)] [] K) else (if i2 = 5 then zWM d 84 [.ref 0, .int i1] (ia, la, zRA pl dr cp cw rp) (zK (d + 1) 82 83 [some (.ref 0), some (.int i1), some (.int i2)] [] K) else K (some (.int (-1 : Int32))) (ia, la, zRA pl dr cp cw rp))))))) else K (some (.int (-1 : Int32))) (ia, la, zRA pl dr cp cw rp)) := by
  refine (Q_if_ne (tgt := 10) zm_82 (Or.inl (by decide)) D82_5 (by decide)).trans ?_
  refine zif_c (fun h0_ => ?_) (fun h0_ => ?_)
  · refine (Q_iload_n zm_82 (Or.inl (by decide)) D82_10 rfl).trans ?_
    by_cases h1_ : i2 = 0
    · rw [if_pos h1_]
      refine (congrArg (fun q => zWP (d + 1) 82 11 [some (.ref 0), some (.int i1), some (.int i2)] (.int q :: []) (ia, la, zRA pl dr cp cw rp) K) h1_).trans ?_
      refine (Q_tsw (tgt := 48) zm_82 (Or.inl (by decide)) D82_11 rfl (by decide)).trans ?_
      rfl
    rw [if_neg h1_]
    by_cases h2_ : i2 = 1
    · rw [if_pos h2_]
      refine (congrArg (fun q => zWP (d + 1) 82 11 [some (.ref 0), some (.int i1), some (.int i2)] (.int q :: []) (ia, la, zRA pl dr cp cw rp) K) h2_).trans ?_
      refine (Q_tsw (tgt := 48) zm_82 (Or.inl (by decide)) D82_11 rfl (by decide)).trans ?_
      rfl
    rw [if_neg h2_]
    by_cases h3_ : i2 = 2
    · rw [if_pos h3_]
      refine (congrArg (fun q => zWP (d + 1) 82 11 [some (.ref 0), some (.int i1), some (.int i2)] (.int q :: []) (ia, la, zRA pl dr cp cw rp) K) h3_).trans ?_
      refine (Q_tsw (tgt := 48) zm_82 (Or.inl (by decide)) D82_11 rfl (by decide)).trans ?_
      rfl
    rw [if_neg h3_]
    by_cases h4_ : i2 = 3
    · rw [if_pos h4_]
      refine (congrArg (fun q => zWP (d + 1) 82 11 [some (.ref 0), some (.int i1), some (.int i2)] (.int q :: []) (ia, la, zRA pl dr cp cw rp) K) h4_).trans ?_
      refine (Q_tsw (tgt := 62) zm_82 (Or.inl (by decide)) D82_11 rfl (by decide)).trans ?_
      refine (Q_aload_n zm_82 (Or.inl (by decide)) D82_62 rfl).trans ?_
      refine (Q_getR (q := 72) zm_82 (Or.inl (by decide)) D82_63 zf_9_31 zs_9_3 zk_0.1 rfl).trans ?_
      refine (Q_getR (q := 73) zm_82 (Or.inl (by decide)) D82_66 zf_9_148 zs_8_2 zk_72.1 rfl).trans ?_
      refine (Q_iload_n zm_82 (Or.inl (by decide)) D82_69 rfl).trans ?_
      refine (Q_iaload zm_82 (Or.inl (by decide)) D82_70 zk_73.1 zk_73.2).trans ?_
      refine zand_c (fun h5_ => ?_)
      exact Q_ireturn zm_82 (Or.inl (by decide)) D82_71 rfl
    rw [if_neg h4_]
    by_cases h6_ : i2 = 4
    · rw [if_pos h6_]
      refine (congrArg (fun q => zWP (d + 1) 82 11 [some (.ref 0), some (.int i1), some (.int i2)] (.int q :: []) (ia, la, zRA pl dr cp cw rp) K) h6_).trans ?_
      refine (Q_tsw (tgt := 72) zm_82 (Or.inl (by decide)) D82_11 rfl (by decide)).trans ?_
      refine (Q_aload_n zm_82 (Or.inl (by decide)) D82_72 rfl).trans ?_
      refine (Q_iload_n zm_82 (Or.inl (by decide)) D82_73 rfl).trans ?_
      exact Q_callv (as := [.int i1]) (b := 0) (rest := []) zm_82 (Or.inl (by decide)) D82_74 zc_9_151 rfl zk_0.1 (by decide) (by decide +kernel) (by decide) (by simp [zcat, Value.category]) zm_83 rfl
    rw [if_neg h6_]
    by_cases h7_ : i2 = 5
    · rw [if_pos h7_]
      refine (congrArg (fun q => zWP (d + 1) 82 11 [some (.ref 0), some (.int i1), some (.int i2)] (.int q :: []) (ia, la, zRA pl dr cp cw rp) K) h7_).trans ?_
      refine (Q_tsw (tgt := 78) zm_82 (Or.inl (by decide)) D82_11 rfl (by decide)).trans ?_
      refine (Q_aload_n zm_82 (Or.inl (by decide)) D82_78 rfl).trans ?_
      refine (Q_iload_n zm_82 (Or.inl (by decide)) D82_79 rfl).trans ?_
      exact Q_callv (as := [.int i1]) (b := 0) (rest := []) zm_82 (Or.inl (by decide)) D82_80 zc_9_154 rfl zk_0.1 (by decide) (by decide +kernel) (by decide) (by simp [zcat, Value.category]) zm_84 rfl
    rw [if_neg h7_]
    refine (Q_tsw (tgt := 84) zm_82 (Or.inl (by decide)) D82_11 (zsw_out (n := 6) (by decide) (fun q hq => ?_)) (by decide)).trans ?_
    · rcases (show q = 0 ∨ q = 1 ∨ q = 2 ∨ q = 3 ∨ q = 4 ∨ q = 5 by omega) with rfl | rfl | rfl | rfl | rfl | rfl
      · exact h1_
      · exact h2_
      · exact h3_
      · exact h4_
      · exact h6_
      · exact h7_
    refine (Q_iconst (v := -1) zm_82 (Or.inl (by decide)) D82_84 (by decide)).trans ?_
    exact Q_ireturn zm_82 (Or.inl (by decide)) D82_85 rfl
  · refine (Q_iconst (v := -1) zm_82 (Or.inl (by decide)) D82_8 (by decide)).trans ?_
    exact Q_ireturn zm_82 (Or.inl (by decide)) D82_9 rfl

theorem b82_48 {d : Nat} {i1 : Int32} {i2 : Int32} {ia : Nat → Nat → Int32} {la : Nat → Nat → Int64} {pl dr : Nat} {cp : Option Nat} {cw : Option Nat} {rp : Option Nat} {K : Option Value → zHP → Prop} (hpl : zIsP pl) : zWP d 82 48 [some (.ref 0), some (.int i1), some (.int i2)] [] (ia, la, zRA pl dr cp cw rp) K = (vp_in ((i1 * (3 : Int32)) + i2) 18 ∧ K (some (.int (ia (pl + 2) (((i1 * (3 : Int32)) + i2)).toNatClampNeg))) (ia, la, zRA pl dr cp cw rp)) := by
  refine (Q_aload_n zm_82 (Or.inl (by decide)) D82_48 rfl).trans ?_
  refine (Q_getR (q := pl) zm_82 (Or.inl (by decide)) D82_49 zf_9_21 zs_9_1 zk_0.1 rfl).trans ?_
  refine (Q_getR (q := (pl + 2)) zm_82 (Or.inl (by decide)) D82_52 zf_9_147 zs_3_6 (zkp_0 hpl).1 (zrp_6 hpl)).trans ?_
  refine (Q_iload_n zm_82 (Or.inl (by decide)) D82_55 rfl).trans ?_
  refine (Q_iconst (v := 3) zm_82 (Or.inl (by decide)) D82_56 (by decide)).trans ?_
  refine (Q_imul zm_82 (Or.inl (by decide)) D82_57).trans ?_
  refine (Q_iload_n zm_82 (Or.inl (by decide)) D82_58 rfl).trans ?_
  refine (Q_iadd zm_82 (Or.inl (by decide)) D82_59).trans ?_
  refine (Q_iaload zm_82 (Or.inl (by decide)) D82_60 (zkp_2 hpl).1 (zkp_2 hpl).2).trans ?_
  refine zand_c (fun h0_ => ?_)
  exact Q_ireturn zm_82 (Or.inl (by decide)) D82_61 rfl

theorem b82_77 {d : Nat} {i1 : Int32} {i2 : Int32} {s0 : Int32} {ia : Nat → Nat → Int32} {la : Nat → Nat → Int64} {pl dr : Nat} {cp : Option Nat} {cw : Option Nat} {rp : Option Nat} {K : Option Value → zHP → Prop}  : zWP d 82 77 [some (.ref 0), some (.int i1), some (.int i2)] [.int s0] (ia, la, zRA pl dr cp cw rp) K = K (some (.int s0)) (ia, la, zRA pl dr cp cw rp) := by
  exact Q_ireturn zm_82 (Or.inl (by decide)) D82_77 rfl

theorem b82_83 {d : Nat} {i1 : Int32} {i2 : Int32} {s0 : Int32} {ia : Nat → Nat → Int32} {la : Nat → Nat → Int64} {pl dr : Nat} {cp : Option Nat} {cw : Option Nat} {rp : Option Nat} {K : Option Value → zHP → Prop}  : zWP d 82 83 [some (.ref 0), some (.int i1), some (.int i2)] [.int s0] (ia, la, zRA pl dr cp cw rp) K = K (some (.int s0)) (ia, la, zRA pl dr cp cw rp) := by
  exact Q_ireturn zm_82 (Or.inl (by decide)) D82_83 rfl

/-! HandsLet.handsHeldBy(I)I -/
theorem D83_0 : decode prog_1_method_10_code 0 = .ok (.iconst 0, 1) := by decide +kernel
theorem D83_1 : decode prog_1_method_10_code 1 = .ok (.istore_n 2, 1) := by decide +kernel
theorem D83_2 : decode prog_1_method_10_code 2 = .ok (.iconst 0, 1) := by decide +kernel
theorem D83_3 : decode prog_1_method_10_code 3 = .ok (.istore_n 3, 1) := by decide +kernel
theorem D83_4 : decode prog_1_method_10_code 4 = .ok (.iload_n 3, 1) := by decide +kernel
theorem D83_5 : decode prog_1_method_10_code 5 = .ok (.aload_n 0, 1) := by decide +kernel
theorem D83_6 : decode prog_1_method_10_code 6 = .ok (.getfield 21, 3) := by decide +kernel
theorem D83_9 : decode prog_1_method_10_code 9 = .ok (.getfield 116, 3) := by decide +kernel
theorem D83_12 : decode prog_1_method_10_code 12 = .ok (.if_icmp .ge 27, 3) := by decide +kernel
theorem D83_15 : decode prog_1_method_10_code 15 = .ok (.aload_n 0, 1) := by decide +kernel
theorem D83_16 : decode prog_1_method_10_code 16 = .ok (.getfield 31, 3) := by decide +kernel
theorem D83_19 : decode prog_1_method_10_code 19 = .ok (.iload_n 3, 1) := by decide +kernel
theorem D83_20 : decode prog_1_method_10_code 20 = .ok (.invokevirtual 141, 3) := by decide +kernel
theorem D83_23 : decode prog_1_method_10_code 23 = .ok (.iload_n 1, 1) := by decide +kernel
theorem D83_24 : decode prog_1_method_10_code 24 = .ok (.if_icmp .ne 9, 3) := by decide +kernel
theorem D83_27 : decode prog_1_method_10_code 27 = .ok (.iload_n 2, 1) := by decide +kernel
theorem D83_28 : decode prog_1_method_10_code 28 = .ok (.iconst 1, 1) := by decide +kernel
theorem D83_29 : decode prog_1_method_10_code 29 = .ok (.iload_n 3, 1) := by decide +kernel
theorem D83_30 : decode prog_1_method_10_code 30 = .ok (.ishl, 1) := by decide +kernel
theorem D83_31 : decode prog_1_method_10_code 31 = .ok (.ior, 1) := by decide +kernel
theorem D83_32 : decode prog_1_method_10_code 32 = .ok (.istore_n 2, 1) := by decide +kernel
theorem D83_33 : decode prog_1_method_10_code 33 = .ok (.iinc 3 1, 3) := by decide +kernel
theorem D83_36 : decode prog_1_method_10_code 36 = .ok (.goto (-32), 3) := by decide +kernel
theorem D83_39 : decode prog_1_method_10_code 39 = .ok (.iload_n 2, 1) := by decide +kernel
theorem D83_40 : decode prog_1_method_10_code 40 = .ok (.ireturn, 1) := by decide +kernel

theorem b83_0 {d : Nat} {i1 : Int32} {ia : Nat → Nat → Int32} {la : Nat → Nat → Int64} {pl dr : Nat} {cp : Option Nat} {cw : Option Nat} {rp : Option Nat} {K : Option Value → zHP → Prop}  : zWP d 83 0 [some (.ref 0), some (.int i1), none, none] [] (ia, la, zRA pl dr cp cw rp) K = zWP d 83 4 [some (.ref 0), some (.int i1), some (.int (0 : Int32)), some (.int (0 : Int32))] [] (ia, la, zRA pl dr cp cw rp) K := by
  refine (Q_iconst (v := 0) zm_83 (Or.inl (by decide)) D83_0 (by decide)).trans ?_
  refine (Q_istore_n (ls' := [some (.ref 0), some (.int i1), some (.int (0 : Int32)), none]) zm_83 (Or.inl (by decide)) D83_1 rfl (Nat.le_of_ble_eq_true rfl) rfl).trans ?_
  refine (Q_iconst (v := 0) zm_83 (Or.inl (by decide)) D83_2 (by decide)).trans ?_
  refine (Q_istore_n (ls' := [some (.ref 0), some (.int i1), some (.int (0 : Int32)), some (.int (0 : Int32))]) zm_83 (Or.inl (by decide)) D83_3 rfl (Nat.le_of_ble_eq_true rfl) rfl).trans ?_
  rfl

theorem b83_4 {d : Nat} {i1 : Int32} {i2 : Int32} {i3 : Int32} {ia : Nat → Nat → Int32} {la : Nat → Nat → Int64} {pl dr : Nat} {cp : Option Nat} {cw : Option Nat} {rp : Option Nat} {K : Option Value → zHP → Prop} (hpl : zIsP pl) : zWP (d + 1) 83 4 [some (.ref 0), some (.int i1), some (.int i2), some (.int i3)] [] (ia, la, zRA pl dr cp cw rp) K = (if (ia pl 1) ≤ i3 then K (some (.int i2)) (ia, la, zRA pl dr cp cw rp) else zWM d 70 [.ref 72, .int i3] (ia, la, zRA pl dr cp cw rp) (zK (d + 1) 83 23 [some (.ref 0), some (.int i1), some (.int i2), some (.int i3)] [] K)) := by
  refine (Q_iload_n zm_83 (Or.inl (by decide)) D83_4 rfl).trans ?_
  refine (Q_aload_n zm_83 (Or.inl (by decide)) D83_5 rfl).trans ?_
  refine (Q_getR (q := pl) zm_83 (Or.inl (by decide)) D83_6 zf_9_21 zs_9_1 zk_0.1 rfl).trans ?_
  refine (Q_getI zm_83 (Or.inl (by decide)) D83_9 zf_9_116 (Or.inl zs_3_1) (zkp_0 hpl).1).trans ?_
  refine (Q_ic_ge (tgt := 39) zm_83 (Or.inl (by decide)) D83_12 (by decide)).trans ?_
  refine zif_c (fun h0_ => ?_) (fun h0_ => ?_)
  · refine (Q_iload_n zm_83 (Or.inl (by decide)) D83_39 rfl).trans ?_
    exact Q_ireturn zm_83 (Or.inl (by decide)) D83_40 rfl
  · refine (Q_aload_n zm_83 (Or.inl (by decide)) D83_15 rfl).trans ?_
    refine (Q_getR (q := 72) zm_83 (Or.inl (by decide)) D83_16 zf_9_31 zs_9_3 zk_0.1 rfl).trans ?_
    refine (Q_iload_n zm_83 (Or.inl (by decide)) D83_19 rfl).trans ?_
    exact Q_callv (as := [.int i3]) (b := 72) (rest := []) zm_83 (Or.inl (by decide)) D83_20 zc_9_141 rfl zk_72.1 (by decide) (by decide +kernel) (by decide) (by simp [zcat, Value.category]) zm_70 rfl

theorem b83_23 {d : Nat} {i1 : Int32} {i2 : Int32} {i3 : Int32} {s0 : Int32} {ia : Nat → Nat → Int32} {la : Nat → Nat → Int64} {pl dr : Nat} {cp : Option Nat} {cw : Option Nat} {rp : Option Nat} {K : Option Value → zHP → Prop}  : zWP d 83 23 [some (.ref 0), some (.int i1), some (.int i2), some (.int i3)] [.int s0] (ia, la, zRA pl dr cp cw rp) K = (if ¬ s0 = i1 then zWP d 83 4 [some (.ref 0), some (.int i1), some (.int i2), some (.int (i3 + (1 : Int32)))] [] (ia, la, zRA pl dr cp cw rp) K else zWP d 83 4 [some (.ref 0), some (.int i1), some (.int (i2 ||| ((1 : Int32) <<< (i3 &&& 31)))), some (.int (i3 + (1 : Int32)))] [] (ia, la, zRA pl dr cp cw rp) K) := by
  refine (Q_iload_n zm_83 (Or.inl (by decide)) D83_23 rfl).trans ?_
  refine (Q_ic_ne (tgt := 33) zm_83 (Or.inl (by decide)) D83_24 (by decide)).trans ?_
  refine zif_c (fun h0_ => ?_) (fun h0_ => ?_)
  · refine (Q_iinc (v := 1) (ls' := [some (.ref 0), some (.int i1), some (.int i2), some (.int (i3 + (1 : Int32)))]) zm_83 (Or.inl (by decide)) D83_33 rfl rfl (by decide) rfl).trans ?_
    refine (Q_goto (tgt := 4) zm_83 (Or.inl (by decide)) D83_36 (by decide)).trans ?_
    rfl
  · refine (Q_iload_n zm_83 (Or.inl (by decide)) D83_27 rfl).trans ?_
    refine (Q_iconst (v := 1) zm_83 (Or.inl (by decide)) D83_28 (by decide)).trans ?_
    refine (Q_iload_n zm_83 (Or.inl (by decide)) D83_29 rfl).trans ?_
    refine (Q_ishl zm_83 (Or.inl (by decide)) D83_30).trans ?_
    refine (Q_ior zm_83 (Or.inl (by decide)) D83_31).trans ?_
    refine (Q_istore_n (ls' := [some (.ref 0), some (.int i1), some (.int (i2 ||| ((1 : Int32) <<< (i3 &&& 31)))), some (.int i3)]) zm_83 (Or.inl (by decide)) D83_32 rfl (Nat.le_of_ble_eq_true rfl) rfl).trans ?_
    refine (Q_iinc (v := 1) (ls' := [some (.ref 0), some (.int i1), some (.int (i2 ||| ((1 : Int32) <<< (i3 &&& 31)))), some (.int (i3 + (1 : Int32)))]) zm_83 (Or.inl (by decide)) D83_33 rfl rfl (by decide) rfl).trans ?_
    refine (Q_goto (tgt := 4) zm_83 (Or.inl (by decide)) D83_36 (by decide)).trans ?_
    rfl

/-! HandsLet.lettersForgedBy(I)I -/
theorem D84_0 : decode prog_1_method_11_code 0 = .ok (.iconst 0, 1) := by decide +kernel
theorem D84_1 : decode prog_1_method_11_code 1 = .ok (.istore_n 2, 1) := by decide +kernel
theorem D84_2 : decode prog_1_method_11_code 2 = .ok (.iconst 0, 1) := by decide +kernel
theorem D84_3 : decode prog_1_method_11_code 3 = .ok (.istore_n 3, 1) := by decide +kernel
theorem D84_4 : decode prog_1_method_11_code 4 = .ok (.iload_n 3, 1) := by decide +kernel
theorem D84_5 : decode prog_1_method_11_code 5 = .ok (.aload_n 0, 1) := by decide +kernel
theorem D84_6 : decode prog_1_method_11_code 6 = .ok (.getfield 21, 3) := by decide +kernel
theorem D84_9 : decode prog_1_method_11_code 9 = .ok (.getfield 119, 3) := by decide +kernel
theorem D84_12 : decode prog_1_method_11_code 12 = .ok (.if_icmp .ge 40, 3) := by decide +kernel
theorem D84_15 : decode prog_1_method_11_code 15 = .ok (.aload_n 0, 1) := by decide +kernel
theorem D84_16 : decode prog_1_method_11_code 16 = .ok (.getfield 21, 3) := by decide +kernel
theorem D84_19 : decode prog_1_method_11_code 19 = .ok (.getfield 157, 3) := by decide +kernel
theorem D84_22 : decode prog_1_method_11_code 22 = .ok (.iload_n 3, 1) := by decide +kernel
theorem D84_23 : decode prog_1_method_11_code 23 = .ok (.aaload, 1) := by decide +kernel
theorem D84_24 : decode prog_1_method_11_code 24 = .ok (.iconst 0, 1) := by decide +kernel
theorem D84_25 : decode prog_1_method_11_code 25 = .ok (.iaload, 1) := by decide +kernel
theorem D84_26 : decode prog_1_method_11_code 26 = .ok (.iload_n 1, 1) := by decide +kernel
theorem D84_27 : decode prog_1_method_11_code 27 = .ok (.if_icmp .ne 19, 3) := by decide +kernel
theorem D84_30 : decode prog_1_method_11_code 30 = .ok (.aload_n 0, 1) := by decide +kernel
theorem D84_31 : decode prog_1_method_11_code 31 = .ok (.getfield 31, 3) := by decide +kernel
theorem D84_34 : decode prog_1_method_11_code 34 = .ok (.getfield 161, 3) := by decide +kernel
theorem D84_37 : decode prog_1_method_11_code 37 = .ok (.iload_n 3, 1) := by decide +kernel
theorem D84_38 : decode prog_1_method_11_code 38 = .ok (.iaload, 1) := by decide +kernel
theorem D84_39 : decode prog_1_method_11_code 39 = .ok (.iconst 2, 1) := by decide +kernel
theorem D84_40 : decode prog_1_method_11_code 40 = .ok (.if_icmp .ne 6, 3) := by decide +kernel
theorem D84_43 : decode prog_1_method_11_code 43 = .ok (.iinc 2 1, 3) := by decide +kernel
theorem D84_46 : decode prog_1_method_11_code 46 = .ok (.iinc 3 1, 3) := by decide +kernel
theorem D84_49 : decode prog_1_method_11_code 49 = .ok (.goto (-45), 3) := by decide +kernel
theorem D84_52 : decode prog_1_method_11_code 52 = .ok (.iload_n 2, 1) := by decide +kernel
theorem D84_53 : decode prog_1_method_11_code 53 = .ok (.ireturn, 1) := by decide +kernel

theorem b84_0 {d : Nat} {i1 : Int32} {ia : Nat → Nat → Int32} {la : Nat → Nat → Int64} {pl dr : Nat} {cp : Option Nat} {cw : Option Nat} {rp : Option Nat} {K : Option Value → zHP → Prop}  : zWP d 84 0 [some (.ref 0), some (.int i1), none, none] [] (ia, la, zRA pl dr cp cw rp) K = zWP d 84 4 [some (.ref 0), some (.int i1), some (.int (0 : Int32)), some (.int (0 : Int32))] [] (ia, la, zRA pl dr cp cw rp) K := by
  refine (Q_iconst (v := 0) zm_84 (Or.inl (by decide)) D84_0 (by decide)).trans ?_
  refine (Q_istore_n (ls' := [some (.ref 0), some (.int i1), some (.int (0 : Int32)), none]) zm_84 (Or.inl (by decide)) D84_1 rfl (Nat.le_of_ble_eq_true rfl) rfl).trans ?_
  refine (Q_iconst (v := 0) zm_84 (Or.inl (by decide)) D84_2 (by decide)).trans ?_
  refine (Q_istore_n (ls' := [some (.ref 0), some (.int i1), some (.int (0 : Int32)), some (.int (0 : Int32))]) zm_84 (Or.inl (by decide)) D84_3 rfl (Nat.le_of_ble_eq_true rfl) rfl).trans ?_
  rfl

theorem b84_4 {d : Nat} {i1 : Int32} {i2 : Int32} {i3 : Int32} {ia : Nat → Nat → Int32} {la : Nat → Nat → Int64} {pl dr : Nat} {cp : Option Nat} {cw : Option Nat} {rp : Option Nat} {K : Option Value → zHP → Prop} (hpl : zIsP pl) : zWP d 84 4 [some (.ref 0), some (.int i1), some (.int i2), some (.int i3)] [] (ia, la, zRA pl dr cp cw rp) K = (if (ia pl 3) ≤ i3 then K (some (.int i2)) (ia, la, zRA pl dr cp cw rp) else (vp_in i3 12 ∧ (if ¬ (ia (pl + 16 + (i3).toNatClampNeg) 0) = i1 then zWP d 84 4 [some (.ref 0), some (.int i1), some (.int i2), some (.int (i3 + (1 : Int32)))] [] (ia, la, zRA pl dr cp cw rp) K else (if ¬ (ia 78 (i3).toNatClampNeg) = (2 : Int32) then zWP d 84 4 [some (.ref 0), some (.int i1), some (.int i2), some (.int (i3 + (1 : Int32)))] [] (ia, la, zRA pl dr cp cw rp) K else zWP d 84 4 [some (.ref 0), some (.int i1), some (.int (i2 + (1 : Int32))), some (.int (i3 + (1 : Int32)))] [] (ia, la, zRA pl dr cp cw rp) K)))) := by
  refine (Q_iload_n zm_84 (Or.inl (by decide)) D84_4 rfl).trans ?_
  refine (Q_aload_n zm_84 (Or.inl (by decide)) D84_5 rfl).trans ?_
  refine (Q_getR (q := pl) zm_84 (Or.inl (by decide)) D84_6 zf_9_21 zs_9_1 zk_0.1 rfl).trans ?_
  refine (Q_getI zm_84 (Or.inl (by decide)) D84_9 zf_9_119 (Or.inl zs_3_3) (zkp_0 hpl).1).trans ?_
  refine (Q_ic_ge (tgt := 52) zm_84 (Or.inl (by decide)) D84_12 (by decide)).trans ?_
  refine zif_c (fun h0_ => ?_) (fun h0_ => ?_)
  · refine (Q_iload_n zm_84 (Or.inl (by decide)) D84_52 rfl).trans ?_
    exact Q_ireturn zm_84 (Or.inl (by decide)) D84_53 rfl
  · refine (Q_aload_n zm_84 (Or.inl (by decide)) D84_15 rfl).trans ?_
    refine (Q_getR (q := pl) zm_84 (Or.inl (by decide)) D84_16 zf_9_21 zs_9_1 zk_0.1 rfl).trans ?_
    refine (Q_getR (q := (pl + 15)) zm_84 (Or.inl (by decide)) D84_19 zf_9_157 zs_3_9 (zkp_0 hpl).1 (zrp_9 hpl)).trans ?_
    refine (Q_iload_n zm_84 (Or.inl (by decide)) D84_22 rfl).trans ?_
    refine (Q_aaload (f := (fun j => pl + 16 + j)) zm_84 (Or.inl (by decide)) D84_23 (zkp_15 hpl).1 (zkp_15 hpl).2 (zrow_t (pl := pl) (dr := dr) (cp := cp) (cw := cw) (rp := rp) hpl)).trans ?_
    refine zand_c (fun h1_ => ?_)
    refine (Q_iconst (v := 0) zm_84 (Or.inl (by decide)) D84_24 (by decide)).trans ?_
    refine ((Q_iaload zm_84 (Or.inl (by decide)) D84_25 (zkrow_t hpl h1_).1 (zkrow_t hpl h1_).2).trans (zdrop (zin_spec (by decide)))).trans ?_
    refine (Q_iload_n zm_84 (Or.inl (by decide)) D84_26 rfl).trans ?_
    refine (Q_ic_ne (tgt := 46) zm_84 (Or.inl (by decide)) D84_27 (by decide)).trans ?_
    refine zif_c (fun h2_ => ?_) (fun h2_ => ?_)
    · refine (Q_iinc (v := 1) (ls' := [some (.ref 0), some (.int i1), some (.int i2), some (.int (i3 + (1 : Int32)))]) zm_84 (Or.inl (by decide)) D84_46 rfl rfl (by decide) rfl).trans ?_
      refine (Q_goto (tgt := 4) zm_84 (Or.inl (by decide)) D84_49 (by decide)).trans ?_
      rfl
    · refine (Q_aload_n zm_84 (Or.inl (by decide)) D84_30 rfl).trans ?_
      refine (Q_getR (q := 72) zm_84 (Or.inl (by decide)) D84_31 zf_9_31 zs_9_3 zk_0.1 rfl).trans ?_
      refine (Q_getR (q := 78) zm_84 (Or.inl (by decide)) D84_34 zf_9_161 zs_8_7 zk_72.1 rfl).trans ?_
      refine (Q_iload_n zm_84 (Or.inl (by decide)) D84_37 rfl).trans ?_
      refine ((Q_iaload zm_84 (Or.inl (by decide)) D84_38 zk_78.1 zk_78.2).trans (zdrop h1_)).trans ?_
      refine (Q_iconst (v := 2) zm_84 (Or.inl (by decide)) D84_39 (by decide)).trans ?_
      refine (Q_ic_ne (tgt := 46) zm_84 (Or.inl (by decide)) D84_40 (by decide)).trans ?_
      refine zif_c (fun h3_ => ?_) (fun h3_ => ?_)
      · refine (Q_iinc (v := 1) (ls' := [some (.ref 0), some (.int i1), some (.int i2), some (.int (i3 + (1 : Int32)))]) zm_84 (Or.inl (by decide)) D84_46 rfl rfl (by decide) rfl).trans ?_
        refine (Q_goto (tgt := 4) zm_84 (Or.inl (by decide)) D84_49 (by decide)).trans ?_
        rfl
      · refine (Q_iinc (v := 1) (ls' := [some (.ref 0), some (.int i1), some (.int (i2 + (1 : Int32))), some (.int i3)]) zm_84 (Or.inl (by decide)) D84_43 rfl rfl (by decide) rfl).trans ?_
        refine (Q_iinc (v := 1) (ls' := [some (.ref 0), some (.int i1), some (.int (i2 + (1 : Int32))), some (.int (i3 + (1 : Int32)))]) zm_84 (Or.inl (by decide)) D84_46 rfl rfl (by decide) rfl).trans ?_
        refine (Q_goto (tgt := 4) zm_84 (Or.inl (by decide)) D84_49 (by decide)).trans ?_
        rfl

/-! HandsLet.letter(II)I -/
theorem D85_0 : decode prog_1_method_12_code 0 = .ok (.aload_n 0, 1) := by decide +kernel
theorem D85_1 : decode prog_1_method_12_code 1 = .ok (.iload_n 1, 1) := by decide +kernel
theorem D85_2 : decode prog_1_method_12_code 2 = .ok (.invokevirtual 164, 3) := by decide +kernel
theorem D85_5 : decode prog_1_method_12_code 5 = .ok (.ifCond .ne 5, 3) := by decide +kernel
theorem D85_8 : decode prog_1_method_12_code 8 = .ok (.iconst (-1), 1) := by decide +kernel
theorem D85_9 : decode prog_1_method_12_code 9 = .ok (.ireturn, 1) := by decide +kernel
theorem D85_10 : decode prog_1_method_12_code 10 = .ok (.iload_n 2, 1) := by decide +kernel
theorem D85_11 : decode prog_1_method_12_code 11 = .ok (.tableswitch 125 0 8 #[49, 49, 49, 61, 71, 81, 91, 91, 91], 49) := by decide +kernel
theorem D85_60 : decode prog_1_method_12_code 60 = .ok (.aload_n 0, 1) := by decide +kernel
theorem D85_61 : decode prog_1_method_12_code 61 = .ok (.getfield 21, 3) := by decide +kernel
theorem D85_64 : decode prog_1_method_12_code 64 = .ok (.getfield 157, 3) := by decide +kernel
theorem D85_67 : decode prog_1_method_12_code 67 = .ok (.iload_n 1, 1) := by decide +kernel
theorem D85_68 : decode prog_1_method_12_code 68 = .ok (.aaload, 1) := by decide +kernel
theorem D85_69 : decode prog_1_method_12_code 69 = .ok (.iload_n 2, 1) := by decide +kernel
theorem D85_70 : decode prog_1_method_12_code 70 = .ok (.iaload, 1) := by decide +kernel
theorem D85_71 : decode prog_1_method_12_code 71 = .ok (.ireturn, 1) := by decide +kernel
theorem D85_72 : decode prog_1_method_12_code 72 = .ok (.aload_n 0, 1) := by decide +kernel
theorem D85_73 : decode prog_1_method_12_code 73 = .ok (.getfield 31, 3) := by decide +kernel
theorem D85_76 : decode prog_1_method_12_code 76 = .ok (.getfield 161, 3) := by decide +kernel
theorem D85_79 : decode prog_1_method_12_code 79 = .ok (.iload_n 1, 1) := by decide +kernel
theorem D85_80 : decode prog_1_method_12_code 80 = .ok (.iaload, 1) := by decide +kernel
theorem D85_81 : decode prog_1_method_12_code 81 = .ok (.ireturn, 1) := by decide +kernel
theorem D85_82 : decode prog_1_method_12_code 82 = .ok (.aload_n 0, 1) := by decide +kernel
theorem D85_83 : decode prog_1_method_12_code 83 = .ok (.getfield 31, 3) := by decide +kernel
theorem D85_86 : decode prog_1_method_12_code 86 = .ok (.getfield 167, 3) := by decide +kernel
theorem D85_89 : decode prog_1_method_12_code 89 = .ok (.iload_n 1, 1) := by decide +kernel
theorem D85_90 : decode prog_1_method_12_code 90 = .ok (.iaload, 1) := by decide +kernel
theorem D85_91 : decode prog_1_method_12_code 91 = .ok (.ireturn, 1) := by decide +kernel
theorem D85_92 : decode prog_1_method_12_code 92 = .ok (.aload_n 0, 1) := by decide +kernel
theorem D85_93 : decode prog_1_method_12_code 93 = .ok (.getfield 31, 3) := by decide +kernel
theorem D85_96 : decode prog_1_method_12_code 96 = .ok (.getfield 170, 3) := by decide +kernel
theorem D85_99 : decode prog_1_method_12_code 99 = .ok (.iload_n 1, 1) := by decide +kernel
theorem D85_100 : decode prog_1_method_12_code 100 = .ok (.iaload, 1) := by decide +kernel
theorem D85_101 : decode prog_1_method_12_code 101 = .ok (.ireturn, 1) := by decide +kernel
theorem D85_102 : decode prog_1_method_12_code 102 = .ok (.aload_n 0, 1) := by decide +kernel
theorem D85_103 : decode prog_1_method_12_code 103 = .ok (.getfield 31, 3) := by decide +kernel
theorem D85_106 : decode prog_1_method_12_code 106 = .ok (.getfield 161, 3) := by decide +kernel
theorem D85_109 : decode prog_1_method_12_code 109 = .ok (.iload_n 1, 1) := by decide +kernel
theorem D85_110 : decode prog_1_method_12_code 110 = .ok (.iaload, 1) := by decide +kernel
theorem D85_111 : decode prog_1_method_12_code 111 = .ok (.ifCond .ne 8, 3) := by decide +kernel
theorem D85_114 : decode prog_1_method_12_code 114 = .ok (.bipush (-2), 2) := by decide +kernel
theorem D85_116 : decode prog_1_method_12_code 116 = .ok (.goto 19, 3) := by decide +kernel
theorem D85_119 : decode prog_1_method_12_code 119 = .ok (.aload_n 0, 1) := by decide +kernel
theorem D85_120 : decode prog_1_method_12_code 120 = .ok (.getfield 31, 3) := by decide +kernel
theorem D85_123 : decode prog_1_method_12_code 123 = .ok (.getfield 173, 3) := by decide +kernel
theorem D85_126 : decode prog_1_method_12_code 126 = .ok (.iload_n 1, 1) := by decide +kernel
theorem D85_127 : decode prog_1_method_12_code 127 = .ok (.iconst 3, 1) := by decide +kernel
theorem D85_128 : decode prog_1_method_12_code 128 = .ok (.imul, 1) := by decide +kernel
theorem D85_129 : decode prog_1_method_12_code 129 = .ok (.iload_n 2, 1) := by decide +kernel
theorem D85_130 : decode prog_1_method_12_code 130 = .ok (.iadd, 1) := by decide +kernel
theorem D85_131 : decode prog_1_method_12_code 131 = .ok (.bipush 6, 2) := by decide +kernel
theorem D85_133 : decode prog_1_method_12_code 133 = .ok (.isub, 1) := by decide +kernel
theorem D85_134 : decode prog_1_method_12_code 134 = .ok (.iaload, 1) := by decide +kernel
theorem D85_135 : decode prog_1_method_12_code 135 = .ok (.ireturn, 1) := by decide +kernel
theorem D85_136 : decode prog_1_method_12_code 136 = .ok (.iconst (-1), 1) := by decide +kernel
theorem D85_137 : decode prog_1_method_12_code 137 = .ok (.ireturn, 1) := by decide +kernel

theorem b85_0 {d : Nat} {i1 : Int32} {i2 : Int32} {ia : Nat → Nat → Int32} {la : Nat → Nat → Int64} {pl dr : Nat} {cp : Option Nat} {cw : Option Nat} {rp : Option Nat} {K : Option Value → zHP → Prop}  : zWP (d + 1) 85 0 [some (.ref 0), some (.int i1), some (.int i2)] [] (ia, la, zRA pl dr cp cw rp) K = zWM d 81 [.ref 0, .int i1] (ia, la, zRA pl dr cp cw rp) (zK (d + 1) 85 5 [some (.ref 0), some (.int i1), some (.int i2)] [] K) := by
  refine (Q_aload_n zm_85 (Or.inl (by decide)) D85_0 rfl).trans ?_
  refine (Q_iload_n zm_85 (Or.inl (by decide)) D85_1 rfl).trans ?_
  exact Q_callv (as := [.int i1]) (b := 0) (rest := []) zm_85 (Or.inl (by decide)) D85_2 zc_9_164 rfl zk_0.1 (by decide) (by decide +kernel) (by decide) (by simp [zcat, Value.category]) zm_81 rfl

theorem b85_5 {d : Nat} {i1 : Int32} {i2 : Int32} {s0 : Int32} {ia : Nat → Nat → Int32} {la : Nat → Nat → Int64} {pl dr : Nat} {cp : Option Nat} {cw : Option Nat} {rp : Option Nat} {K : Option Value → zHP → Prop} (hpl : zIsP pl) : zWP d 85 5 [some (.ref 0), some (.int i1), some (.int i2)] [.int s0] (ia, la, zRA pl dr cp cw rp) K = (if ¬ s0 = 0 then (if i2 = 0 then (vp_in i1 12 ∧ (vp_in i2 3 ∧ K (some (.int (ia (pl + 16 + (i1).toNatClampNeg) (i2).toNatClampNeg))) (ia, la, zRA pl dr cp cw rp))) else (if i2 = 1 then (vp_in i1 12 ∧ (vp_in i2 3 ∧ K (some (.int (ia (pl + 16 + (i1).toNatClampNeg) (i2).toNatClampNeg))) (ia, la, zRA pl dr cp cw rp))) else (if i2 = 2 then (vp_in i1 12 ∧ (vp_in i2 3 ∧ K (some (.int (ia (pl + 16 + (i1).toNatClampNeg) (i2).toNatClampNeg))) (ia, la, zRA pl dr cp cw rp))) else (if i2 = 3 then (vp_in i1 12 ∧ K (some (.int (ia 78 (i1).toNatClampNeg))) (ia, la, zRA pl dr cp cw rp)) else (if i2 = 4 then (vp_in i1 12 ∧ K (some (.int (ia 79 (i1).toNatClampNeg))) (ia, la, zRA pl dr cp cw rp)) else (if i2 = 5 then (vp_in i1 12 ∧ K (some (.int (ia 80 (i1).toNatClampNeg))) (ia, la, zRA pl dr cp cw rp)) else (if i2 = 6 then zWP d 85 102 [some (.ref 0), some (.int i1), some (.int i2)] [] (ia, la, zRA pl dr cp cw rp) K else (if i2 = 7 then zWP d 85 102 [some (.ref 0), some (.int i1), some (.int i2)] [] (ia, la, zRA pl dr cp cw rp) K else (if i2 = 8 then zWP d 85 102 [some (.ref 0), some (.int i1), some (.int i2)] [] (ia, la, zRA pl dr cp cw rp) K else K (some (.int (-1 : Int32))) (ia, la, zRA pl dr cp cw rp)))))))))) else K (some (.int (-1 : Int32))) (ia, la, zRA pl dr cp cw rp)) := by
  refine (Q_if_ne (tgt := 10) zm_85 (Or.inl (by decide)) D85_5 (by decide)).trans ?_
  refine zif_c (fun h0_ => ?_) (fun h0_ => ?_)
  · refine (Q_iload_n zm_85 (Or.inl (by decide)) D85_10 rfl).trans ?_
    by_cases h1_ : i2 = 0
    · rw [if_pos h1_]
      refine (congrArg (fun q => zWP d 85 11 [some (.ref 0), some (.int i1), some (.int i2)] (.int q :: []) (ia, la, zRA pl dr cp cw rp) K) h1_).trans ?_
      refine (Q_tsw (tgt := 60) zm_85 (Or.inl (by decide)) D85_11 rfl (by decide)).trans ?_
      refine (Q_aload_n zm_85 (Or.inl (by decide)) D85_60 rfl).trans ?_
      refine (Q_getR (q := pl) zm_85 (Or.inl (by decide)) D85_61 zf_9_21 zs_9_1 zk_0.1 rfl).trans ?_
      refine (Q_getR (q := (pl + 15)) zm_85 (Or.inl (by decide)) D85_64 zf_9_157 zs_3_9 (zkp_0 hpl).1 (zrp_9 hpl)).trans ?_
      refine (Q_iload_n zm_85 (Or.inl (by decide)) D85_67 rfl).trans ?_
      refine (Q_aaload (f := (fun j => pl + 16 + j)) zm_85 (Or.inl (by decide)) D85_68 (zkp_15 hpl).1 (zkp_15 hpl).2 (zrow_t (pl := pl) (dr := dr) (cp := cp) (cw := cw) (rp := rp) hpl)).trans ?_
      refine zand_c (fun h2_ => ?_)
      refine (Q_iload_n zm_85 (Or.inl (by decide)) D85_69 rfl).trans ?_
      refine (Q_iaload zm_85 (Or.inl (by decide)) D85_70 (zkrow_t hpl h2_).1 (zkrow_t hpl h2_).2).trans ?_
      refine zand_c (fun h3_ => ?_)
      exact Q_ireturn zm_85 (Or.inl (by decide)) D85_71 rfl
    rw [if_neg h1_]
    by_cases h4_ : i2 = 1
    · rw [if_pos h4_]
      refine (congrArg (fun q => zWP d 85 11 [some (.ref 0), some (.int i1), some (.int i2)] (.int q :: []) (ia, la, zRA pl dr cp cw rp) K) h4_).trans ?_
      refine (Q_tsw (tgt := 60) zm_85 (Or.inl (by decide)) D85_11 rfl (by decide)).trans ?_
      refine (Q_aload_n zm_85 (Or.inl (by decide)) D85_60 rfl).trans ?_
      refine (Q_getR (q := pl) zm_85 (Or.inl (by decide)) D85_61 zf_9_21 zs_9_1 zk_0.1 rfl).trans ?_
      refine (Q_getR (q := (pl + 15)) zm_85 (Or.inl (by decide)) D85_64 zf_9_157 zs_3_9 (zkp_0 hpl).1 (zrp_9 hpl)).trans ?_
      refine (Q_iload_n zm_85 (Or.inl (by decide)) D85_67 rfl).trans ?_
      refine (Q_aaload (f := (fun j => pl + 16 + j)) zm_85 (Or.inl (by decide)) D85_68 (zkp_15 hpl).1 (zkp_15 hpl).2 (zrow_t (pl := pl) (dr := dr) (cp := cp) (cw := cw) (rp := rp) hpl)).trans ?_
      refine zand_c (fun h5_ => ?_)
      refine (Q_iload_n zm_85 (Or.inl (by decide)) D85_69 rfl).trans ?_
      refine (Q_iaload zm_85 (Or.inl (by decide)) D85_70 (zkrow_t hpl h5_).1 (zkrow_t hpl h5_).2).trans ?_
      refine zand_c (fun h6_ => ?_)
      exact Q_ireturn zm_85 (Or.inl (by decide)) D85_71 rfl
    rw [if_neg h4_]
    by_cases h7_ : i2 = 2
    · rw [if_pos h7_]
      refine (congrArg (fun q => zWP d 85 11 [some (.ref 0), some (.int i1), some (.int i2)] (.int q :: []) (ia, la, zRA pl dr cp cw rp) K) h7_).trans ?_
      refine (Q_tsw (tgt := 60) zm_85 (Or.inl (by decide)) D85_11 rfl (by decide)).trans ?_
      refine (Q_aload_n zm_85 (Or.inl (by decide)) D85_60 rfl).trans ?_
      refine (Q_getR (q := pl) zm_85 (Or.inl (by decide)) D85_61 zf_9_21 zs_9_1 zk_0.1 rfl).trans ?_
      refine (Q_getR (q := (pl + 15)) zm_85 (Or.inl (by decide)) D85_64 zf_9_157 zs_3_9 (zkp_0 hpl).1 (zrp_9 hpl)).trans ?_
      refine (Q_iload_n zm_85 (Or.inl (by decide)) D85_67 rfl).trans ?_
      refine (Q_aaload (f := (fun j => pl + 16 + j)) zm_85 (Or.inl (by decide)) D85_68 (zkp_15 hpl).1 (zkp_15 hpl).2 (zrow_t (pl := pl) (dr := dr) (cp := cp) (cw := cw) (rp := rp) hpl)).trans ?_
      refine zand_c (fun h8_ => ?_)
      refine (Q_iload_n zm_85 (Or.inl (by decide)) D85_69 rfl).trans ?_
      refine (Q_iaload zm_85 (Or.inl (by decide)) D85_70 (zkrow_t hpl h8_).1 (zkrow_t hpl h8_).2).trans ?_
      refine zand_c (fun h9_ => ?_)
      exact Q_ireturn zm_85 (Or.inl (by decide)) D85_71 rfl
    rw [if_neg h7_]
    by_cases h10_ : i2 = 3
    · rw [if_pos h10_]
      refine (congrArg (fun q => zWP d 85 11 [some (.ref 0), some (.int i1), some (.int i2)] (.int q :: []) (ia, la, zRA pl dr cp cw rp) K) h10_).trans ?_
      refine (Q_tsw (tgt := 72) zm_85 (Or.inl (by decide)) D85_11 rfl (by decide)).trans ?_
      refine (Q_aload_n zm_85 (Or.inl (by decide)) D85_72 rfl).trans ?_
      refine (Q_getR (q := 72) zm_85 (Or.inl (by decide)) D85_73 zf_9_31 zs_9_3 zk_0.1 rfl).trans ?_
      refine (Q_getR (q := 78) zm_85 (Or.inl (by decide)) D85_76 zf_9_161 zs_8_7 zk_72.1 rfl).trans ?_
      refine (Q_iload_n zm_85 (Or.inl (by decide)) D85_79 rfl).trans ?_
      refine (Q_iaload zm_85 (Or.inl (by decide)) D85_80 zk_78.1 zk_78.2).trans ?_
      refine zand_c (fun h11_ => ?_)
      exact Q_ireturn zm_85 (Or.inl (by decide)) D85_81 rfl
    rw [if_neg h10_]
    by_cases h12_ : i2 = 4
    · rw [if_pos h12_]
      refine (congrArg (fun q => zWP d 85 11 [some (.ref 0), some (.int i1), some (.int i2)] (.int q :: []) (ia, la, zRA pl dr cp cw rp) K) h12_).trans ?_
      refine (Q_tsw (tgt := 82) zm_85 (Or.inl (by decide)) D85_11 rfl (by decide)).trans ?_
      refine (Q_aload_n zm_85 (Or.inl (by decide)) D85_82 rfl).trans ?_
      refine (Q_getR (q := 72) zm_85 (Or.inl (by decide)) D85_83 zf_9_31 zs_9_3 zk_0.1 rfl).trans ?_
      refine (Q_getR (q := 79) zm_85 (Or.inl (by decide)) D85_86 zf_9_167 zs_8_8 zk_72.1 rfl).trans ?_
      refine (Q_iload_n zm_85 (Or.inl (by decide)) D85_89 rfl).trans ?_
      refine (Q_iaload zm_85 (Or.inl (by decide)) D85_90 zk_79.1 zk_79.2).trans ?_
      refine zand_c (fun h13_ => ?_)
      exact Q_ireturn zm_85 (Or.inl (by decide)) D85_91 rfl
    rw [if_neg h12_]
    by_cases h14_ : i2 = 5
    · rw [if_pos h14_]
      refine (congrArg (fun q => zWP d 85 11 [some (.ref 0), some (.int i1), some (.int i2)] (.int q :: []) (ia, la, zRA pl dr cp cw rp) K) h14_).trans ?_
      refine (Q_tsw (tgt := 92) zm_85 (Or.inl (by decide)) D85_11 rfl (by decide)).trans ?_
      refine (Q_aload_n zm_85 (Or.inl (by decide)) D85_92 rfl).trans ?_
      refine (Q_getR (q := 72) zm_85 (Or.inl (by decide)) D85_93 zf_9_31 zs_9_3 zk_0.1 rfl).trans ?_
      refine (Q_getR (q := 80) zm_85 (Or.inl (by decide)) D85_96 zf_9_170 zs_8_9 zk_72.1 rfl).trans ?_
      refine (Q_iload_n zm_85 (Or.inl (by decide)) D85_99 rfl).trans ?_
      refine (Q_iaload zm_85 (Or.inl (by decide)) D85_100 zk_80.1 zk_80.2).trans ?_
      refine zand_c (fun h15_ => ?_)
      exact Q_ireturn zm_85 (Or.inl (by decide)) D85_101 rfl
    rw [if_neg h14_]
    by_cases h16_ : i2 = 6
    · rw [if_pos h16_]
      refine (congrArg (fun q => zWP d 85 11 [some (.ref 0), some (.int i1), some (.int i2)] (.int q :: []) (ia, la, zRA pl dr cp cw rp) K) h16_).trans ?_
      refine (Q_tsw (tgt := 102) zm_85 (Or.inl (by decide)) D85_11 rfl (by decide)).trans ?_
      rfl
    rw [if_neg h16_]
    by_cases h17_ : i2 = 7
    · rw [if_pos h17_]
      refine (congrArg (fun q => zWP d 85 11 [some (.ref 0), some (.int i1), some (.int i2)] (.int q :: []) (ia, la, zRA pl dr cp cw rp) K) h17_).trans ?_
      refine (Q_tsw (tgt := 102) zm_85 (Or.inl (by decide)) D85_11 rfl (by decide)).trans ?_
      rfl
    rw [if_neg h17_]
    by_cases h18_ : i2 = 8
    · rw [if_pos h18_]
      refine (congrArg (fun q => zWP d 85 11 [some (.ref 0), some (.int i1), some (.int i2)] (.int q :: []) (ia, la, zRA pl dr cp cw rp) K) h18_).trans ?_
      refine (Q_tsw (tgt := 102) zm_85 (Or.inl (by decide)) D85_11 rfl (by decide)).trans ?_
      rfl
    rw [if_neg h18_]
    refine (Q_tsw (tgt := 136) zm_85 (Or.inl (by decide)) D85_11 (zsw_out (n := 9) (by decide) (fun q hq => ?_)) (by decide)).trans ?_
    · rcases (show q = 0 ∨ q = 1 ∨ q = 2 ∨ q = 3 ∨ q = 4 ∨ q = 5 ∨ q = 6 ∨ q = 7 ∨ q = 8 by omega) with rfl | rfl | rfl | rfl | rfl | rfl | rfl | rfl | rfl
      · exact h1_
      · exact h4_
      · exact h7_
      · exact h10_
      · exact h12_
      · exact h14_
      · exact h16_
      · exact h17_
      · exact h18_
    refine (Q_iconst (v := -1) zm_85 (Or.inl (by decide)) D85_136 (by decide)).trans ?_
    exact Q_ireturn zm_85 (Or.inl (by decide)) D85_137 rfl
  · refine (Q_iconst (v := -1) zm_85 (Or.inl (by decide)) D85_8 (by decide)).trans ?_
    exact Q_ireturn zm_85 (Or.inl (by decide)) D85_9 rfl

theorem b85_102 {d : Nat} {i1 : Int32} {i2 : Int32} {ia : Nat → Nat → Int32} {la : Nat → Nat → Int64} {pl dr : Nat} {cp : Option Nat} {cw : Option Nat} {rp : Option Nat} {K : Option Value → zHP → Prop}  : zWP d 85 102 [some (.ref 0), some (.int i1), some (.int i2)] [] (ia, la, zRA pl dr cp cw rp) K = (vp_in i1 12 ∧ (if ¬ (ia 78 (i1).toNatClampNeg) = 0 then (vp_in (((i1 * (3 : Int32)) + i2) - (6 : Int32)) 36 ∧ K (some (.int (ia 81 ((((i1 * (3 : Int32)) + i2) - (6 : Int32))).toNatClampNeg))) (ia, la, zRA pl dr cp cw rp)) else K (some (.int (-2 : Int32))) (ia, la, zRA pl dr cp cw rp))) := by
  refine (Q_aload_n zm_85 (Or.inl (by decide)) D85_102 rfl).trans ?_
  refine (Q_getR (q := 72) zm_85 (Or.inl (by decide)) D85_103 zf_9_31 zs_9_3 zk_0.1 rfl).trans ?_
  refine (Q_getR (q := 78) zm_85 (Or.inl (by decide)) D85_106 zf_9_161 zs_8_7 zk_72.1 rfl).trans ?_
  refine (Q_iload_n zm_85 (Or.inl (by decide)) D85_109 rfl).trans ?_
  refine (Q_iaload zm_85 (Or.inl (by decide)) D85_110 zk_78.1 zk_78.2).trans ?_
  refine zand_c (fun h0_ => ?_)
  refine (Q_if_ne (tgt := 119) zm_85 (Or.inl (by decide)) D85_111 (by decide)).trans ?_
  refine zif_c (fun h1_ => ?_) (fun h1_ => ?_)
  · refine (Q_aload_n zm_85 (Or.inl (by decide)) D85_119 rfl).trans ?_
    refine (Q_getR (q := 72) zm_85 (Or.inl (by decide)) D85_120 zf_9_31 zs_9_3 zk_0.1 rfl).trans ?_
    refine (Q_getR (q := 81) zm_85 (Or.inl (by decide)) D85_123 zf_9_173 zs_8_10 zk_72.1 rfl).trans ?_
    refine (Q_iload_n zm_85 (Or.inl (by decide)) D85_126 rfl).trans ?_
    refine (Q_iconst (v := 3) zm_85 (Or.inl (by decide)) D85_127 (by decide)).trans ?_
    refine (Q_imul zm_85 (Or.inl (by decide)) D85_128).trans ?_
    refine (Q_iload_n zm_85 (Or.inl (by decide)) D85_129 rfl).trans ?_
    refine (Q_iadd zm_85 (Or.inl (by decide)) D85_130).trans ?_
    refine (Q_bipush (v := 6) zm_85 (Or.inl (by decide)) D85_131 (by decide)).trans ?_
    refine (Q_isub zm_85 (Or.inl (by decide)) D85_133).trans ?_
    refine (Q_iaload zm_85 (Or.inl (by decide)) D85_134 zk_81.1 zk_81.2).trans ?_
    refine zand_c (fun h2_ => ?_)
    exact Q_ireturn zm_85 (Or.inl (by decide)) D85_135 rfl
  · refine (Q_bipush (v := -2) zm_85 (Or.inl (by decide)) D85_114 (by decide)).trans ?_
    refine (Q_goto (tgt := 135) zm_85 (Or.inl (by decide)) D85_116 (by decide)).trans ?_
    exact Q_ireturn zm_85 (Or.inl (by decide)) D85_135 rfl

/-! HandsLet.law(IIII)J -/
theorem D86_0 : decode prog_1_method_13_code 0 = .ok (.iload_n 1, 1) := by decide +kernel
theorem D86_1 : decode prog_1_method_13_code 1 = .ok (.ifCond .lt 24, 3) := by decide +kernel
theorem D86_4 : decode prog_1_method_13_code 4 = .ok (.iload_n 1, 1) := by decide +kernel
theorem D86_5 : decode prog_1_method_13_code 5 = .ok (.iconst 3, 1) := by decide +kernel
theorem D86_6 : decode prog_1_method_13_code 6 = .ok (.if_icmp .ge 19, 3) := by decide +kernel
theorem D86_9 : decode prog_1_method_13_code 9 = .ok (.aload_n 0, 1) := by decide +kernel
theorem D86_10 : decode prog_1_method_13_code 10 = .ok (.iload_n 2, 1) := by decide +kernel
theorem D86_11 : decode prog_1_method_13_code 11 = .ok (.invokevirtual 122, 3) := by decide +kernel
theorem D86_14 : decode prog_1_method_13_code 14 = .ok (.ifCond .eq 11, 3) := by decide +kernel
theorem D86_17 : decode prog_1_method_13_code 17 = .ok (.aload_n 0, 1) := by decide +kernel
theorem D86_18 : decode prog_1_method_13_code 18 = .ok (.iload_n 3, 1) := by decide +kernel
theorem D86_19 : decode prog_1_method_13_code 19 = .ok (.invokevirtual 122, 3) := by decide +kernel
theorem D86_22 : decode prog_1_method_13_code 22 = .ok (.ifCond .ne 7, 3) := by decide +kernel
theorem D86_25 : decode prog_1_method_13_code 25 = .ok (.ldc2_w 176, 3) := by decide +kernel
theorem D86_28 : decode prog_1_method_13_code 28 = .ok (.lreturn, 1) := by decide +kernel
theorem D86_29 : decode prog_1_method_13_code 29 = .ok (.iload_n 1, 1) := by decide +kernel
theorem D86_30 : decode prog_1_method_13_code 30 = .ok (.ifCond .ne 15, 3) := by decide +kernel
theorem D86_33 : decode prog_1_method_13_code 33 = .ok (.iload 4, 2) := by decide +kernel
theorem D86_35 : decode prog_1_method_13_code 35 = .ok (.invokestatic 178, 3) := by decide +kernel
theorem D86_38 : decode prog_1_method_13_code 38 = .ok (.ifCond .ne 7, 3) := by decide +kernel
theorem D86_41 : decode prog_1_method_13_code 41 = .ok (.ldc2_w 176, 3) := by decide +kernel
theorem D86_44 : decode prog_1_method_13_code 44 = .ok (.lreturn, 1) := by decide +kernel
theorem D86_45 : decode prog_1_method_13_code 45 = .ok (.aload_n 0, 1) := by decide +kernel
theorem D86_46 : decode prog_1_method_13_code 46 = .ok (.getfield 44, 3) := by decide +kernel
theorem D86_49 : decode prog_1_method_13_code 49 = .ok (.getfield 181, 3) := by decide +kernel
theorem D86_52 : decode prog_1_method_13_code 52 = .ok (.aload_n 0, 1) := by decide +kernel
theorem D86_53 : decode prog_1_method_13_code 53 = .ok (.getfield 31, 3) := by decide +kernel
theorem D86_56 : decode prog_1_method_13_code 56 = .ok (.iload_n 2, 1) := by decide +kernel
theorem D86_57 : decode prog_1_method_13_code 57 = .ok (.iload_n 3, 1) := by decide +kernel
theorem D86_58 : decode prog_1_method_13_code 58 = .ok (.iload_n 1, 1) := by decide +kernel
theorem D86_59 : decode prog_1_method_13_code 59 = .ok (.ifCond .ne 8, 3) := by decide +kernel
theorem D86_62 : decode prog_1_method_13_code 62 = .ok (.iload 4, 2) := by decide +kernel
theorem D86_64 : decode prog_1_method_13_code 64 = .ok (.goto 4, 3) := by decide +kernel
theorem D86_67 : decode prog_1_method_13_code 67 = .ok (.iconst 0, 1) := by decide +kernel
theorem D86_68 : decode prog_1_method_13_code 68 = .ok (.invokevirtual 185, 3) := by decide +kernel
theorem D86_71 : decode prog_1_method_13_code 71 = .ok (.aload_n 0, 1) := by decide +kernel
theorem D86_72 : decode prog_1_method_13_code 72 = .ok (.getfield 44, 3) := by decide +kernel
theorem D86_75 : decode prog_1_method_13_code 75 = .ok (.getfield 181, 3) := by decide +kernel
theorem D86_78 : decode prog_1_method_13_code 78 = .ok (.aload_n 0, 1) := by decide +kernel
theorem D86_79 : decode prog_1_method_13_code 79 = .ok (.getfield 21, 3) := by decide +kernel
theorem D86_82 : decode prog_1_method_13_code 82 = .ok (.iload_n 1, 1) := by decide +kernel
theorem D86_83 : decode prog_1_method_13_code 83 = .ok (.invokevirtual 191, 3) := by decide +kernel
theorem D86_86 : decode prog_1_method_13_code 86 = .ok (.lreturn, 1) := by decide +kernel

theorem b86_0 {d : Nat} {i1 : Int32} {i2 : Int32} {i3 : Int32} {i4 : Int32} {ia : Nat → Nat → Int32} {la : Nat → Nat → Int64} {pl dr : Nat} {cp : Option Nat} {cw : Option Nat} {rp : Option Nat} {K : Option Value → zHP → Prop}  : zWP (d + 1) 86 0 [some (.ref 0), some (.int i1), some (.int i2), some (.int i3), some (.int i4)] [] (ia, la, zRA pl dr cp cw rp) K = (if i1 < 0 then K (some (.long (-9223372036854775808 : Int64))) (ia, la, zRA pl dr cp cw rp) else (if (3 : Int32) ≤ i1 then K (some (.long (-9223372036854775808 : Int64))) (ia, la, zRA pl dr cp cw rp) else zWM d 80 [.ref 0, .int i2] (ia, la, zRA pl dr cp cw rp) (zK (d + 1) 86 14 [some (.ref 0), some (.int i1), some (.int i2), some (.int i3), some (.int i4)] [] K))) := by
  refine (Q_iload_n zm_86 (Or.inl (by decide)) D86_0 rfl).trans ?_
  refine (Q_if_lt (tgt := 25) zm_86 (Or.inl (by decide)) D86_1 (by decide)).trans ?_
  refine zif_c (fun h0_ => ?_) (fun h0_ => ?_)
  · refine (Q_ldc2_w (v := -9223372036854775808) zm_86 (Or.inl (by decide)) D86_25 (by decide +kernel)).trans ?_
    exact Q_lreturn zm_86 (Or.inl (by decide)) D86_28 rfl
  · refine (Q_iload_n zm_86 (Or.inl (by decide)) D86_4 rfl).trans ?_
    refine (Q_iconst (v := 3) zm_86 (Or.inl (by decide)) D86_5 (by decide)).trans ?_
    refine (Q_ic_ge (tgt := 25) zm_86 (Or.inl (by decide)) D86_6 (by decide)).trans ?_
    refine zif_c (fun h1_ => ?_) (fun h1_ => ?_)
    · refine (Q_ldc2_w (v := -9223372036854775808) zm_86 (Or.inl (by decide)) D86_25 (by decide +kernel)).trans ?_
      exact Q_lreturn zm_86 (Or.inl (by decide)) D86_28 rfl
    · refine (Q_aload_n zm_86 (Or.inl (by decide)) D86_9 rfl).trans ?_
      refine (Q_iload_n zm_86 (Or.inl (by decide)) D86_10 rfl).trans ?_
      exact Q_callv (as := [.int i2]) (b := 0) (rest := []) zm_86 (Or.inl (by decide)) D86_11 zc_9_122 rfl zk_0.1 (by decide) (by decide +kernel) (by decide) (by simp [zcat, Value.category]) zm_80 rfl

theorem b86_14 {d : Nat} {i1 : Int32} {i2 : Int32} {i3 : Int32} {i4 : Int32} {s0 : Int32} {ia : Nat → Nat → Int32} {la : Nat → Nat → Int64} {pl dr : Nat} {cp : Option Nat} {cw : Option Nat} {rp : Option Nat} {K : Option Value → zHP → Prop}  : zWP (d + 1) 86 14 [some (.ref 0), some (.int i1), some (.int i2), some (.int i3), some (.int i4)] [.int s0] (ia, la, zRA pl dr cp cw rp) K = (if s0 = 0 then K (some (.long (-9223372036854775808 : Int64))) (ia, la, zRA pl dr cp cw rp) else zWM d 80 [.ref 0, .int i3] (ia, la, zRA pl dr cp cw rp) (zK (d + 1) 86 22 [some (.ref 0), some (.int i1), some (.int i2), some (.int i3), some (.int i4)] [] K)) := by
  refine (Q_if_eq (tgt := 25) zm_86 (Or.inl (by decide)) D86_14 (by decide)).trans ?_
  refine zif_c (fun h0_ => ?_) (fun h0_ => ?_)
  · refine (Q_ldc2_w (v := -9223372036854775808) zm_86 (Or.inl (by decide)) D86_25 (by decide +kernel)).trans ?_
    exact Q_lreturn zm_86 (Or.inl (by decide)) D86_28 rfl
  · refine (Q_aload_n zm_86 (Or.inl (by decide)) D86_17 rfl).trans ?_
    refine (Q_iload_n zm_86 (Or.inl (by decide)) D86_18 rfl).trans ?_
    exact Q_callv (as := [.int i3]) (b := 0) (rest := []) zm_86 (Or.inl (by decide)) D86_19 zc_9_122 rfl zk_0.1 (by decide) (by decide +kernel) (by decide) (by simp [zcat, Value.category]) zm_80 rfl

theorem b86_22 {d : Nat} {i1 : Int32} {i2 : Int32} {i3 : Int32} {i4 : Int32} {s0 : Int32} {ia : Nat → Nat → Int32} {la : Nat → Nat → Int64} {pl dr : Nat} {cp : Option Nat} {cw : Option Nat} {rp : Option Nat} {K : Option Value → zHP → Prop}  : zWP (d + 1) 86 22 [some (.ref 0), some (.int i1), some (.int i2), some (.int i3), some (.int i4)] [.int s0] (ia, la, zRA pl dr cp cw rp) K = (if ¬ s0 = 0 then (if ¬ i1 = 0 then zWP (d + 1) 86 45 [some (.ref 0), some (.int i1), some (.int i2), some (.int i3), some (.int i4)] [] (ia, la, zRA pl dr cp cw rp) K else zWM d 87 [.int i4] (ia, la, zRA pl dr cp cw rp) (zK (d + 1) 86 38 [some (.ref 0), some (.int i1), some (.int i2), some (.int i3), some (.int i4)] [] K)) else K (some (.long (-9223372036854775808 : Int64))) (ia, la, zRA pl dr cp cw rp)) := by
  refine (Q_if_ne (tgt := 29) zm_86 (Or.inl (by decide)) D86_22 (by decide)).trans ?_
  refine zif_c (fun h0_ => ?_) (fun h0_ => ?_)
  · refine (Q_iload_n zm_86 (Or.inl (by decide)) D86_29 rfl).trans ?_
    refine (Q_if_ne (tgt := 45) zm_86 (Or.inl (by decide)) D86_30 (by decide)).trans ?_
    refine zif_c (fun h1_ => ?_) (fun h1_ => ?_)
    · rfl
    · refine (Q_iload zm_86 (Or.inl (by decide)) D86_33 rfl).trans ?_
      exact Q_calls (as := [.int i4]) (rest := []) zm_86 (Or.inl (by decide)) D86_35 zc_9_178 rfl (by decide) (by simp [zcat, Value.category]) zm_87 rfl
  · refine (Q_ldc2_w (v := -9223372036854775808) zm_86 (Or.inl (by decide)) D86_25 (by decide +kernel)).trans ?_
    exact Q_lreturn zm_86 (Or.inl (by decide)) D86_28 rfl

theorem b86_45 {d : Nat} {i1 : Int32} {i2 : Int32} {i3 : Int32} {i4 : Int32} {ia : Nat → Nat → Int32} {la : Nat → Nat → Int64} {pl dr : Nat} {cp : Option Nat} {cw : Option Nat} {rp : Option Nat} {K : Option Value → zHP → Prop}  : zWP (d + 1) 86 45 [some (.ref 0), some (.int i1), some (.int i2), some (.int i3), some (.int i4)] [] (ia, la, zRA pl dr cp cw rp) K = (if ¬ i1 = 0 then zWM d 50 [.ref 103, .ref 72, .int i2, .int i3, .int (0 : Int32)] (ia, la, zRA pl dr cp cw rp) (zK (d + 1) 86 71 [some (.ref 0), some (.int i1), some (.int i2), some (.int i3), some (.int i4)] [] K) else zWM d 50 [.ref 103, .ref 72, .int i2, .int i3, .int i4] (ia, la, zRA pl dr cp cw rp) (zK (d + 1) 86 71 [some (.ref 0), some (.int i1), some (.int i2), some (.int i3), some (.int i4)] [] K)) := by
  refine (Q_aload_n zm_86 (Or.inl (by decide)) D86_45 rfl).trans ?_
  refine (Q_getR (q := 102) zm_86 (Or.inl (by decide)) D86_46 zf_9_44 zs_9_7 zk_0.1 rfl).trans ?_
  refine (Q_getR (q := 103) zm_86 (Or.inl (by decide)) D86_49 zf_9_181 zs_0_0 zk_102.1 rfl).trans ?_
  refine (Q_aload_n zm_86 (Or.inl (by decide)) D86_52 rfl).trans ?_
  refine (Q_getR (q := 72) zm_86 (Or.inl (by decide)) D86_53 zf_9_31 zs_9_3 zk_0.1 rfl).trans ?_
  refine (Q_iload_n zm_86 (Or.inl (by decide)) D86_56 rfl).trans ?_
  refine (Q_iload_n zm_86 (Or.inl (by decide)) D86_57 rfl).trans ?_
  refine (Q_iload_n zm_86 (Or.inl (by decide)) D86_58 rfl).trans ?_
  refine (Q_if_ne (tgt := 67) zm_86 (Or.inl (by decide)) D86_59 (by decide)).trans ?_
  refine zif_c (fun h0_ => ?_) (fun h0_ => ?_)
  · refine (Q_iconst (v := 0) zm_86 (Or.inl (by decide)) D86_67 (by decide)).trans ?_
    exact Q_callv (as := [.ref 72, .int i2, .int i3, .int (0 : Int32)]) (b := 103) (rest := []) zm_86 (Or.inl (by decide)) D86_68 zc_9_185 rfl zk_103.1 (by decide) (by decide +kernel) (by decide) (by simp [zcat, Value.category]) zm_50 rfl
  · refine (Q_iload zm_86 (Or.inl (by decide)) D86_62 rfl).trans ?_
    refine (Q_goto (tgt := 68) zm_86 (Or.inl (by decide)) D86_64 (by decide)).trans ?_
    exact Q_callv (as := [.ref 72, .int i2, .int i3, .int i4]) (b := 103) (rest := []) zm_86 (Or.inl (by decide)) D86_68 zc_9_185 rfl zk_103.1 (by decide) (by decide +kernel) (by decide) (by simp [zcat, Value.category]) zm_50 rfl

theorem b86_38 {d : Nat} {i1 : Int32} {i2 : Int32} {i3 : Int32} {i4 : Int32} {s0 : Int32} {ia : Nat → Nat → Int32} {la : Nat → Nat → Int64} {pl dr : Nat} {cp : Option Nat} {cw : Option Nat} {rp : Option Nat} {K : Option Value → zHP → Prop}  : zWP d 86 38 [some (.ref 0), some (.int i1), some (.int i2), some (.int i3), some (.int i4)] [.int s0] (ia, la, zRA pl dr cp cw rp) K = (if ¬ s0 = 0 then zWP d 86 45 [some (.ref 0), some (.int i1), some (.int i2), some (.int i3), some (.int i4)] [] (ia, la, zRA pl dr cp cw rp) K else K (some (.long (-9223372036854775808 : Int64))) (ia, la, zRA pl dr cp cw rp)) := by
  refine (Q_if_ne (tgt := 45) zm_86 (Or.inl (by decide)) D86_38 (by decide)).trans ?_
  refine zif_c (fun h0_ => ?_) (fun h0_ => ?_)
  · rfl
  · refine (Q_ldc2_w (v := -9223372036854775808) zm_86 (Or.inl (by decide)) D86_41 (by decide +kernel)).trans ?_
    exact Q_lreturn zm_86 (Or.inl (by decide)) D86_44 rfl

theorem b86_71 {d : Nat} {i1 : Int32} {i2 : Int32} {i3 : Int32} {i4 : Int32} {ia : Nat → Nat → Int32} {la : Nat → Nat → Int64} {pl dr : Nat} {cp : Option Nat} {cw : Option Nat} {rp : Option Nat} {K : Option Value → zHP → Prop}  : zWP (d + 1) 86 71 [some (.ref 0), some (.int i1), some (.int i2), some (.int i3), some (.int i4)] [] (ia, la, zRA pl dr cp cw rp) K = zWM d 51 [.ref 103, .ref pl, .int i1] (ia, la, zRA pl dr cp cw rp) (zK (d + 1) 86 86 [some (.ref 0), some (.int i1), some (.int i2), some (.int i3), some (.int i4)] [] K) := by
  refine (Q_aload_n zm_86 (Or.inl (by decide)) D86_71 rfl).trans ?_
  refine (Q_getR (q := 102) zm_86 (Or.inl (by decide)) D86_72 zf_9_44 zs_9_7 zk_0.1 rfl).trans ?_
  refine (Q_getR (q := 103) zm_86 (Or.inl (by decide)) D86_75 zf_9_181 zs_0_0 zk_102.1 rfl).trans ?_
  refine (Q_aload_n zm_86 (Or.inl (by decide)) D86_78 rfl).trans ?_
  refine (Q_getR (q := pl) zm_86 (Or.inl (by decide)) D86_79 zf_9_21 zs_9_1 zk_0.1 rfl).trans ?_
  refine (Q_iload_n zm_86 (Or.inl (by decide)) D86_82 rfl).trans ?_
  exact Q_callv (as := [.ref pl, .int i1]) (b := 103) (rest := []) zm_86 (Or.inl (by decide)) D86_83 zc_9_191 rfl zk_103.1 (by decide) (by decide +kernel) (by decide) (by simp [zcat, Value.category]) zm_51 rfl

theorem b86_86 {d : Nat} {i1 : Int32} {i2 : Int32} {i3 : Int32} {i4 : Int32} {t0 : Int64} {ia : Nat → Nat → Int32} {la : Nat → Nat → Int64} {pl dr : Nat} {cp : Option Nat} {cw : Option Nat} {rp : Option Nat} {K : Option Value → zHP → Prop}  : zWP d 86 86 [some (.ref 0), some (.int i1), some (.int i2), some (.int i3), some (.int i4)] [.long t0] (ia, la, zRA pl dr cp cw rp) K = K (some (.long t0)) (ia, la, zRA pl dr cp cw rp) := by
  exact Q_lreturn zm_86 (Or.inl (by decide)) D86_86 rfl

/-! HandsLet.isPrice(I)Z -/
theorem D87_0 : decode prog_1_method_14_code 0 = .ok (.iload_n 0, 1) := by decide +kernel
theorem D87_1 : decode prog_1_method_14_code 1 = .ok (.ifCond .lt 13, 3) := by decide +kernel
theorem D87_4 : decode prog_1_method_14_code 4 = .ok (.iload_n 0, 1) := by decide +kernel
theorem D87_5 : decode prog_1_method_14_code 5 = .ok (.bipush 99, 2) := by decide +kernel
theorem D87_7 : decode prog_1_method_14_code 7 = .ok (.if_icmp .gt 7, 3) := by decide +kernel
theorem D87_10 : decode prog_1_method_14_code 10 = .ok (.iconst 1, 1) := by decide +kernel
theorem D87_11 : decode prog_1_method_14_code 11 = .ok (.goto 4, 3) := by decide +kernel
theorem D87_14 : decode prog_1_method_14_code 14 = .ok (.iconst 0, 1) := by decide +kernel
theorem D87_15 : decode prog_1_method_14_code 15 = .ok (.ireturn, 1) := by decide +kernel

theorem b87_0 {d : Nat} {i0 : Int32} {ia : Nat → Nat → Int32} {la : Nat → Nat → Int64} {pl dr : Nat} {cp : Option Nat} {cw : Option Nat} {rp : Option Nat} {K : Option Value → zHP → Prop}  : zWP d 87 0 [some (.int i0)] [] (ia, la, zRA pl dr cp cw rp) K = (if i0 < 0 then K (some (.int (0 : Int32))) (ia, la, zRA pl dr cp cw rp) else (if (99 : Int32) < i0 then K (some (.int (0 : Int32))) (ia, la, zRA pl dr cp cw rp) else K (some (.int (1 : Int32))) (ia, la, zRA pl dr cp cw rp))) := by
  refine (Q_iload_n zm_87 (Or.inl (by decide)) D87_0 rfl).trans ?_
  refine (Q_if_lt (tgt := 14) zm_87 (Or.inl (by decide)) D87_1 (by decide)).trans ?_
  refine zif_c (fun h0_ => ?_) (fun h0_ => ?_)
  · refine (Q_iconst (v := 0) zm_87 (Or.inl (by decide)) D87_14 (by decide)).trans ?_
    exact Q_zreturn zm_87 (Or.inl (by decide)) D87_15 rfl (by decide)
  · refine (Q_iload_n zm_87 (Or.inl (by decide)) D87_4 rfl).trans ?_
    refine (Q_bipush (v := 99) zm_87 (Or.inl (by decide)) D87_5 (by decide)).trans ?_
    refine (Q_ic_gt (tgt := 14) zm_87 (Or.inl (by decide)) D87_7 (by decide)).trans ?_
    refine zif_c (fun h1_ => ?_) (fun h1_ => ?_)
    · refine (Q_iconst (v := 0) zm_87 (Or.inl (by decide)) D87_14 (by decide)).trans ?_
      exact Q_zreturn zm_87 (Or.inl (by decide)) D87_15 rfl (by decide)
    · refine (Q_iconst (v := 1) zm_87 (Or.inl (by decide)) D87_10 (by decide)).trans ?_
      refine (Q_goto (tgt := 15) zm_87 (Or.inl (by decide)) D87_11 (by decide)).trans ?_
      exact Q_zreturn zm_87 (Or.inl (by decide)) D87_15 rfl (by decide)

/-! HandsLet.let(IIII)I -/
theorem D88_0 : decode prog_1_method_15_code 0 = .ok (.aload_n 0, 1) := by decide +kernel
theorem D88_1 : decode prog_1_method_15_code 1 = .ok (.iload_n 1, 1) := by decide +kernel
theorem D88_2 : decode prog_1_method_15_code 2 = .ok (.invokevirtual 122, 3) := by decide +kernel
theorem D88_5 : decode prog_1_method_15_code 5 = .ok (.ifCond .eq 16, 3) := by decide +kernel
theorem D88_8 : decode prog_1_method_15_code 8 = .ok (.aload_n 0, 1) := by decide +kernel
theorem D88_9 : decode prog_1_method_15_code 9 = .ok (.iload_n 2, 1) := by decide +kernel
theorem D88_10 : decode prog_1_method_15_code 10 = .ok (.invokevirtual 122, 3) := by decide +kernel
theorem D88_13 : decode prog_1_method_15_code 13 = .ok (.ifCond .eq 8, 3) := by decide +kernel
theorem D88_16 : decode prog_1_method_15_code 16 = .ok (.iload_n 1, 1) := by decide +kernel
theorem D88_17 : decode prog_1_method_15_code 17 = .ok (.iload_n 2, 1) := by decide +kernel
theorem D88_18 : decode prog_1_method_15_code 18 = .ok (.if_icmp .ne 5, 3) := by decide +kernel
theorem D88_21 : decode prog_1_method_15_code 21 = .ok (.iconst (-1), 1) := by decide +kernel
theorem D88_22 : decode prog_1_method_15_code 22 = .ok (.ireturn, 1) := by decide +kernel
theorem D88_23 : decode prog_1_method_15_code 23 = .ok (.iload_n 3, 1) := by decide +kernel
theorem D88_24 : decode prog_1_method_15_code 24 = .ok (.iconst 1, 1) := by decide +kernel
theorem D88_25 : decode prog_1_method_15_code 25 = .ok (.if_icmp .lt 17, 3) := by decide +kernel
theorem D88_28 : decode prog_1_method_15_code 28 = .ok (.iload_n 3, 1) := by decide +kernel
theorem D88_29 : decode prog_1_method_15_code 29 = .ok (.bipush 99, 2) := by decide +kernel
theorem D88_31 : decode prog_1_method_15_code 31 = .ok (.if_icmp .gt 11, 3) := by decide +kernel
theorem D88_34 : decode prog_1_method_15_code 34 = .ok (.iload 4, 2) := by decide +kernel
theorem D88_36 : decode prog_1_method_15_code 36 = .ok (.invokestatic 178, 3) := by decide +kernel
theorem D88_39 : decode prog_1_method_15_code 39 = .ok (.ifCond .ne 5, 3) := by decide +kernel
theorem D88_42 : decode prog_1_method_15_code 42 = .ok (.iconst (-1), 1) := by decide +kernel
theorem D88_43 : decode prog_1_method_15_code 43 = .ok (.ireturn, 1) := by decide +kernel
theorem D88_44 : decode prog_1_method_15_code 44 = .ok (.aload_n 0, 1) := by decide +kernel
theorem D88_45 : decode prog_1_method_15_code 45 = .ok (.getfield 44, 3) := by decide +kernel
theorem D88_48 : decode prog_1_method_15_code 48 = .ok (.aload_n 0, 1) := by decide +kernel
theorem D88_49 : decode prog_1_method_15_code 49 = .ok (.getfield 21, 3) := by decide +kernel
theorem D88_52 : decode prog_1_method_15_code 52 = .ok (.aload_n 0, 1) := by decide +kernel
theorem D88_53 : decode prog_1_method_15_code 53 = .ok (.getfield 31, 3) := by decide +kernel
theorem D88_56 : decode prog_1_method_15_code 56 = .ok (.iconst 0, 1) := by decide +kernel
theorem D88_57 : decode prog_1_method_15_code 57 = .ok (.invokevirtual 195, 3) := by decide +kernel
theorem D88_60 : decode prog_1_method_15_code 60 = .ok (.aload_n 0, 1) := by decide +kernel
theorem D88_61 : decode prog_1_method_15_code 61 = .ok (.getfield 44, 3) := by decide +kernel
theorem D88_64 : decode prog_1_method_15_code 64 = .ok (.iconst 0, 1) := by decide +kernel
theorem D88_65 : decode prog_1_method_15_code 65 = .ok (.iload_n 1, 1) := by decide +kernel
theorem D88_66 : decode prog_1_method_15_code 66 = .ok (.iload_n 2, 1) := by decide +kernel
theorem D88_67 : decode prog_1_method_15_code 67 = .ok (.iload 4, 2) := by decide +kernel
theorem D88_69 : decode prog_1_method_15_code 69 = .ok (.invokevirtual 198, 3) := by decide +kernel
theorem D88_72 : decode prog_1_method_15_code 72 = .ok (.istore 5, 2) := by decide +kernel
theorem D88_74 : decode prog_1_method_15_code 74 = .ok (.aload_n 0, 1) := by decide +kernel
theorem D88_75 : decode prog_1_method_15_code 75 = .ok (.getfield 31, 3) := by decide +kernel
theorem D88_78 : decode prog_1_method_15_code 78 = .ok (.iload_n 1, 1) := by decide +kernel
theorem D88_79 : decode prog_1_method_15_code 79 = .ok (.iload_n 2, 1) := by decide +kernel
theorem D88_80 : decode prog_1_method_15_code 80 = .ok (.iload 5, 2) := by decide +kernel
theorem D88_82 : decode prog_1_method_15_code 82 = .ok (.invokevirtual 202, 3) := by decide +kernel
theorem D88_85 : decode prog_1_method_15_code 85 = .ok (.ifCond .ne 6, 3) := by decide +kernel
theorem D88_88 : decode prog_1_method_15_code 88 = .ok (.bipush (-2), 2) := by decide +kernel
theorem D88_90 : decode prog_1_method_15_code 90 = .ok (.ireturn, 1) := by decide +kernel
theorem D88_91 : decode prog_1_method_15_code 91 = .ok (.aload_n 0, 1) := by decide +kernel
theorem D88_92 : decode prog_1_method_15_code 92 = .ok (.getfield 58, 3) := by decide +kernel
theorem D88_95 : decode prog_1_method_15_code 95 = .ok (.aload_n 0, 1) := by decide +kernel
theorem D88_96 : decode prog_1_method_15_code 96 = .ok (.getfield 31, 3) := by decide +kernel
theorem D88_99 : decode prog_1_method_15_code 99 = .ok (.iload_n 1, 1) := by decide +kernel
theorem D88_100 : decode prog_1_method_15_code 100 = .ok (.invokevirtual 206, 3) := by decide +kernel
theorem D88_103 : decode prog_1_method_15_code 103 = .ok (.aload_n 0, 1) := by decide +kernel
theorem D88_104 : decode prog_1_method_15_code 104 = .ok (.getfield 31, 3) := by decide +kernel
theorem D88_107 : decode prog_1_method_15_code 107 = .ok (.iload_n 1, 1) := by decide +kernel
theorem D88_108 : decode prog_1_method_15_code 108 = .ok (.iload_n 2, 1) := by decide +kernel
theorem D88_109 : decode prog_1_method_15_code 109 = .ok (.iload_n 3, 1) := by decide +kernel
theorem D88_110 : decode prog_1_method_15_code 110 = .ok (.iload 5, 2) := by decide +kernel
theorem D88_112 : decode prog_1_method_15_code 112 = .ok (.invokevirtual 210, 3) := by decide +kernel
theorem D88_115 : decode prog_1_method_15_code 115 = .ok (.aload_n 0, 1) := by decide +kernel
theorem D88_116 : decode prog_1_method_15_code 116 = .ok (.getfield 31, 3) := by decide +kernel
theorem D88_119 : decode prog_1_method_15_code 119 = .ok (.getfield 148, 3) := by decide +kernel
theorem D88_122 : decode prog_1_method_15_code 122 = .ok (.iload_n 2, 1) := by decide +kernel
theorem D88_123 : decode prog_1_method_15_code 123 = .ok (.iaload, 1) := by decide +kernel
theorem D88_124 : decode prog_1_method_15_code 124 = .ok (.ireturn, 1) := by decide +kernel

theorem b88_0 {d : Nat} {i1 : Int32} {i2 : Int32} {i3 : Int32} {i4 : Int32} {ia : Nat → Nat → Int32} {la : Nat → Nat → Int64} {pl dr : Nat} {cp : Option Nat} {cw : Option Nat} {rp : Option Nat} {K : Option Value → zHP → Prop}  : zWP (d + 1) 88 0 [some (.ref 0), some (.int i1), some (.int i2), some (.int i3), some (.int i4), none] [] (ia, la, zRA pl dr cp cw rp) K = zWM d 80 [.ref 0, .int i1] (ia, la, zRA pl dr cp cw rp) (zK (d + 1) 88 5 [some (.ref 0), some (.int i1), some (.int i2), some (.int i3), some (.int i4), none] [] K) := by
  refine (Q_aload_n zm_88 (Or.inl (by decide)) D88_0 rfl).trans ?_
  refine (Q_iload_n zm_88 (Or.inl (by decide)) D88_1 rfl).trans ?_
  exact Q_callv (as := [.int i1]) (b := 0) (rest := []) zm_88 (Or.inl (by decide)) D88_2 zc_9_122 rfl zk_0.1 (by decide) (by decide +kernel) (by decide) (by simp [zcat, Value.category]) zm_80 rfl

theorem b88_5 {d : Nat} {i1 : Int32} {i2 : Int32} {i3 : Int32} {i4 : Int32} {s0 : Int32} {ia : Nat → Nat → Int32} {la : Nat → Nat → Int64} {pl dr : Nat} {cp : Option Nat} {cw : Option Nat} {rp : Option Nat} {K : Option Value → zHP → Prop}  : zWP (d + 1) 88 5 [some (.ref 0), some (.int i1), some (.int i2), some (.int i3), some (.int i4), none] [.int s0] (ia, la, zRA pl dr cp cw rp) K = (if s0 = 0 then K (some (.int (-1 : Int32))) (ia, la, zRA pl dr cp cw rp) else zWM d 80 [.ref 0, .int i2] (ia, la, zRA pl dr cp cw rp) (zK (d + 1) 88 13 [some (.ref 0), some (.int i1), some (.int i2), some (.int i3), some (.int i4), none] [] K)) := by
  refine (Q_if_eq (tgt := 21) zm_88 (Or.inl (by decide)) D88_5 (by decide)).trans ?_
  refine zif_c (fun h0_ => ?_) (fun h0_ => ?_)
  · refine (Q_iconst (v := -1) zm_88 (Or.inl (by decide)) D88_21 (by decide)).trans ?_
    exact Q_ireturn zm_88 (Or.inl (by decide)) D88_22 rfl
  · refine (Q_aload_n zm_88 (Or.inl (by decide)) D88_8 rfl).trans ?_
    refine (Q_iload_n zm_88 (Or.inl (by decide)) D88_9 rfl).trans ?_
    exact Q_callv (as := [.int i2]) (b := 0) (rest := []) zm_88 (Or.inl (by decide)) D88_10 zc_9_122 rfl zk_0.1 (by decide) (by decide +kernel) (by decide) (by simp [zcat, Value.category]) zm_80 rfl

theorem b88_13 {d : Nat} {i1 : Int32} {i2 : Int32} {i3 : Int32} {i4 : Int32} {s0 : Int32} {ia : Nat → Nat → Int32} {la : Nat → Nat → Int64} {pl dr : Nat} {cp : Option Nat} {cw : Option Nat} {rp : Option Nat} {K : Option Value → zHP → Prop}  : zWP (d + 1) 88 13 [some (.ref 0), some (.int i1), some (.int i2), some (.int i3), some (.int i4), none] [.int s0] (ia, la, zRA pl dr cp cw rp) K = (if s0 = 0 then K (some (.int (-1 : Int32))) (ia, la, zRA pl dr cp cw rp) else (if ¬ i1 = i2 then (if i3 < (1 : Int32) then K (some (.int (-1 : Int32))) (ia, la, zRA pl dr cp cw rp) else (if (99 : Int32) < i3 then K (some (.int (-1 : Int32))) (ia, la, zRA pl dr cp cw rp) else zWM d 87 [.int i4] (ia, la, zRA pl dr cp cw rp) (zK (d + 1) 88 39 [some (.ref 0), some (.int i1), some (.int i2), some (.int i3), some (.int i4), none] [] K))) else K (some (.int (-1 : Int32))) (ia, la, zRA pl dr cp cw rp))) := by
  refine (Q_if_eq (tgt := 21) zm_88 (Or.inl (by decide)) D88_13 (by decide)).trans ?_
  refine zif_c (fun h0_ => ?_) (fun h0_ => ?_)
  · refine (Q_iconst (v := -1) zm_88 (Or.inl (by decide)) D88_21 (by decide)).trans ?_
    exact Q_ireturn zm_88 (Or.inl (by decide)) D88_22 rfl
  · refine (Q_iload_n zm_88 (Or.inl (by decide)) D88_16 rfl).trans ?_
    refine (Q_iload_n zm_88 (Or.inl (by decide)) D88_17 rfl).trans ?_
    refine (Q_ic_ne (tgt := 23) zm_88 (Or.inl (by decide)) D88_18 (by decide)).trans ?_
    refine zif_c (fun h1_ => ?_) (fun h1_ => ?_)
    · refine (Q_iload_n zm_88 (Or.inl (by decide)) D88_23 rfl).trans ?_
      refine (Q_iconst (v := 1) zm_88 (Or.inl (by decide)) D88_24 (by decide)).trans ?_
      refine (Q_ic_lt (tgt := 42) zm_88 (Or.inl (by decide)) D88_25 (by decide)).trans ?_
      refine zif_c (fun h2_ => ?_) (fun h2_ => ?_)
      · refine (Q_iconst (v := -1) zm_88 (Or.inl (by decide)) D88_42 (by decide)).trans ?_
        exact Q_ireturn zm_88 (Or.inl (by decide)) D88_43 rfl
      · refine (Q_iload_n zm_88 (Or.inl (by decide)) D88_28 rfl).trans ?_
        refine (Q_bipush (v := 99) zm_88 (Or.inl (by decide)) D88_29 (by decide)).trans ?_
        refine (Q_ic_gt (tgt := 42) zm_88 (Or.inl (by decide)) D88_31 (by decide)).trans ?_
        refine zif_c (fun h3_ => ?_) (fun h3_ => ?_)
        · refine (Q_iconst (v := -1) zm_88 (Or.inl (by decide)) D88_42 (by decide)).trans ?_
          exact Q_ireturn zm_88 (Or.inl (by decide)) D88_43 rfl
        · refine (Q_iload zm_88 (Or.inl (by decide)) D88_34 rfl).trans ?_
          exact Q_calls (as := [.int i4]) (rest := []) zm_88 (Or.inl (by decide)) D88_36 zc_9_178 rfl (by decide) (by simp [zcat, Value.category]) zm_87 rfl
    · refine (Q_iconst (v := -1) zm_88 (Or.inl (by decide)) D88_21 (by decide)).trans ?_
      exact Q_ireturn zm_88 (Or.inl (by decide)) D88_22 rfl

theorem b88_39 {d : Nat} {i1 : Int32} {i2 : Int32} {i3 : Int32} {i4 : Int32} {s0 : Int32} {ia : Nat → Nat → Int32} {la : Nat → Nat → Int64} {pl dr : Nat} {cp : Option Nat} {cw : Option Nat} {rp : Option Nat} {K : Option Value → zHP → Prop}  : zWP (d + 1) 88 39 [some (.ref 0), some (.int i1), some (.int i2), some (.int i3), some (.int i4), none] [.int s0] (ia, la, zRA pl dr cp cw rp) K = (if ¬ s0 = 0 then zWM d 0 [.ref 102, .ref pl, .ref 72, .int (0 : Int32)] (ia, la, zRA pl dr cp cw rp) (zK (d + 1) 88 60 [some (.ref 0), some (.int i1), some (.int i2), some (.int i3), some (.int i4), none] [] K) else K (some (.int (-1 : Int32))) (ia, la, zRA pl dr cp cw rp)) := by
  refine (Q_if_ne (tgt := 44) zm_88 (Or.inl (by decide)) D88_39 (by decide)).trans ?_
  refine zif_c (fun h0_ => ?_) (fun h0_ => ?_)
  · refine (Q_aload_n zm_88 (Or.inl (by decide)) D88_44 rfl).trans ?_
    refine (Q_getR (q := 102) zm_88 (Or.inl (by decide)) D88_45 zf_9_44 zs_9_7 zk_0.1 rfl).trans ?_
    refine (Q_aload_n zm_88 (Or.inl (by decide)) D88_48 rfl).trans ?_
    refine (Q_getR (q := pl) zm_88 (Or.inl (by decide)) D88_49 zf_9_21 zs_9_1 zk_0.1 rfl).trans ?_
    refine (Q_aload_n zm_88 (Or.inl (by decide)) D88_52 rfl).trans ?_
    refine (Q_getR (q := 72) zm_88 (Or.inl (by decide)) D88_53 zf_9_31 zs_9_3 zk_0.1 rfl).trans ?_
    refine (Q_iconst (v := 0) zm_88 (Or.inl (by decide)) D88_56 (by decide)).trans ?_
    exact Q_callv (as := [.ref pl, .ref 72, .int (0 : Int32)]) (b := 102) (rest := []) zm_88 (Or.inl (by decide)) D88_57 zc_9_195 rfl zk_102.1 (by decide) (by decide +kernel) (by decide) (by simp [zcat, Value.category]) zm_0 rfl
  · refine (Q_iconst (v := -1) zm_88 (Or.inl (by decide)) D88_42 (by decide)).trans ?_
    exact Q_ireturn zm_88 (Or.inl (by decide)) D88_43 rfl

theorem b88_60 {d : Nat} {i1 : Int32} {i2 : Int32} {i3 : Int32} {i4 : Int32} {ia : Nat → Nat → Int32} {la : Nat → Nat → Int64} {pl dr : Nat} {cp : Option Nat} {cw : Option Nat} {rp : Option Nat} {K : Option Value → zHP → Prop}  : zWP (d + 1) 88 60 [some (.ref 0), some (.int i1), some (.int i2), some (.int i3), some (.int i4), none] [] (ia, la, zRA pl dr cp cw rp) K = zWM d 10 [.ref 102, .int (0 : Int32), .int i1, .int i2, .int i4] (ia, la, zRA pl dr cp cw rp) (zK (d + 1) 88 72 [some (.ref 0), some (.int i1), some (.int i2), some (.int i3), some (.int i4), none] [] K) := by
  refine (Q_aload_n zm_88 (Or.inl (by decide)) D88_60 rfl).trans ?_
  refine (Q_getR (q := 102) zm_88 (Or.inl (by decide)) D88_61 zf_9_44 zs_9_7 zk_0.1 rfl).trans ?_
  refine (Q_iconst (v := 0) zm_88 (Or.inl (by decide)) D88_64 (by decide)).trans ?_
  refine (Q_iload_n zm_88 (Or.inl (by decide)) D88_65 rfl).trans ?_
  refine (Q_iload_n zm_88 (Or.inl (by decide)) D88_66 rfl).trans ?_
  refine (Q_iload zm_88 (Or.inl (by decide)) D88_67 rfl).trans ?_
  exact Q_callv (as := [.int (0 : Int32), .int i1, .int i2, .int i4]) (b := 102) (rest := []) zm_88 (Or.inl (by decide)) D88_69 zc_9_198 rfl zk_102.1 (by decide) (by decide +kernel) (by decide) (by simp [zcat, Value.category]) zm_10 rfl

theorem b88_72 {d : Nat} {i1 : Int32} {i2 : Int32} {i3 : Int32} {i4 : Int32} {s0 : Int32} {ia : Nat → Nat → Int32} {la : Nat → Nat → Int64} {pl dr : Nat} {cp : Option Nat} {cw : Option Nat} {rp : Option Nat} {K : Option Value → zHP → Prop}  : zWP (d + 1) 88 72 [some (.ref 0), some (.int i1), some (.int i2), some (.int i3), some (.int i4), none] [.int s0] (ia, la, zRA pl dr cp cw rp) K = zWM d 71 [.ref 72, .int i1, .int i2, .int s0] (ia, la, zRA pl dr cp cw rp) (zK (d + 1) 88 85 [some (.ref 0), some (.int i1), some (.int i2), some (.int i3), some (.int i4), some (.int s0)] [] K) := by
  refine (Q_istore (ls' := [some (.ref 0), some (.int i1), some (.int i2), some (.int i3), some (.int i4), some (.int s0)]) zm_88 (Or.inl (by decide)) D88_72 rfl (Nat.le_of_ble_eq_true rfl) rfl).trans ?_
  refine (Q_aload_n zm_88 (Or.inl (by decide)) D88_74 rfl).trans ?_
  refine (Q_getR (q := 72) zm_88 (Or.inl (by decide)) D88_75 zf_9_31 zs_9_3 zk_0.1 rfl).trans ?_
  refine (Q_iload_n zm_88 (Or.inl (by decide)) D88_78 rfl).trans ?_
  refine (Q_iload_n zm_88 (Or.inl (by decide)) D88_79 rfl).trans ?_
  refine (Q_iload zm_88 (Or.inl (by decide)) D88_80 rfl).trans ?_
  exact Q_callv (as := [.int i1, .int i2, .int s0]) (b := 72) (rest := []) zm_88 (Or.inl (by decide)) D88_82 zc_9_202 rfl zk_72.1 (by decide) (by decide +kernel) (by decide) (by simp [zcat, Value.category]) zm_71 rfl

theorem b88_85 {d : Nat} {i1 : Int32} {i2 : Int32} {i3 : Int32} {i4 : Int32} {i5 : Int32} {s0 : Int32} {ia : Nat → Nat → Int32} {la : Nat → Nat → Int64} {pl dr : Nat} {cp : Option Nat} {cw : Option Nat} {rp : Option Nat} {K : Option Value → zHP → Prop}  : zWP (d + 1) 88 85 [some (.ref 0), some (.int i1), some (.int i2), some (.int i3), some (.int i4), some (.int i5)] [.int s0] (ia, la, zRA pl dr cp cw rp) K = (if ¬ s0 = 0 then zWM d 12 [.ref 113, .ref 72, .int i1] (ia, la, zRA pl dr cp cw rp) (zK (d + 1) 88 103 [some (.ref 0), some (.int i1), some (.int i2), some (.int i3), some (.int i4), some (.int i5)] [] K) else K (some (.int (-2 : Int32))) (ia, la, zRA pl dr cp cw rp)) := by
  refine (Q_if_ne (tgt := 91) zm_88 (Or.inl (by decide)) D88_85 (by decide)).trans ?_
  refine zif_c (fun h0_ => ?_) (fun h0_ => ?_)
  · refine (Q_aload_n zm_88 (Or.inl (by decide)) D88_91 rfl).trans ?_
    refine (Q_getR (q := 113) zm_88 (Or.inl (by decide)) D88_92 zf_9_58 zs_9_9 zk_0.1 rfl).trans ?_
    refine (Q_aload_n zm_88 (Or.inl (by decide)) D88_95 rfl).trans ?_
    refine (Q_getR (q := 72) zm_88 (Or.inl (by decide)) D88_96 zf_9_31 zs_9_3 zk_0.1 rfl).trans ?_
    refine (Q_iload_n zm_88 (Or.inl (by decide)) D88_99 rfl).trans ?_
    exact Q_callv (as := [.ref 72, .int i1]) (b := 113) (rest := []) zm_88 (Or.inl (by decide)) D88_100 zc_9_206 rfl zk_113.1 (by decide) (by decide +kernel) (by decide) (by simp [zcat, Value.category]) zm_12 rfl
  · refine (Q_bipush (v := -2) zm_88 (Or.inl (by decide)) D88_88 (by decide)).trans ?_
    exact Q_ireturn zm_88 (Or.inl (by decide)) D88_90 rfl

theorem b88_103 {d : Nat} {i1 : Int32} {i2 : Int32} {i3 : Int32} {i4 : Int32} {i5 : Int32} {ia : Nat → Nat → Int32} {la : Nat → Nat → Int64} {pl dr : Nat} {cp : Option Nat} {cw : Option Nat} {rp : Option Nat} {K : Option Value → zHP → Prop}  : zWP (d + 1) 88 103 [some (.ref 0), some (.int i1), some (.int i2), some (.int i3), some (.int i4), some (.int i5)] [] (ia, la, zRA pl dr cp cw rp) K = zWM d 72 [.ref 72, .int i1, .int i2, .int i3, .int i5] (ia, la, zRA pl dr cp cw rp) (zK (d + 1) 88 115 [some (.ref 0), some (.int i1), some (.int i2), some (.int i3), some (.int i4), some (.int i5)] [] K) := by
  refine (Q_aload_n zm_88 (Or.inl (by decide)) D88_103 rfl).trans ?_
  refine (Q_getR (q := 72) zm_88 (Or.inl (by decide)) D88_104 zf_9_31 zs_9_3 zk_0.1 rfl).trans ?_
  refine (Q_iload_n zm_88 (Or.inl (by decide)) D88_107 rfl).trans ?_
  refine (Q_iload_n zm_88 (Or.inl (by decide)) D88_108 rfl).trans ?_
  refine (Q_iload_n zm_88 (Or.inl (by decide)) D88_109 rfl).trans ?_
  refine (Q_iload zm_88 (Or.inl (by decide)) D88_110 rfl).trans ?_
  exact Q_callv (as := [.int i1, .int i2, .int i3, .int i5]) (b := 72) (rest := []) zm_88 (Or.inl (by decide)) D88_112 zc_9_210 rfl zk_72.1 (by decide) (by decide +kernel) (by decide) (by simp [zcat, Value.category]) zm_72 rfl

theorem b88_115 {d : Nat} {i1 : Int32} {i2 : Int32} {i3 : Int32} {i4 : Int32} {i5 : Int32} {ia : Nat → Nat → Int32} {la : Nat → Nat → Int64} {pl dr : Nat} {cp : Option Nat} {cw : Option Nat} {rp : Option Nat} {K : Option Value → zHP → Prop}  : zWP d 88 115 [some (.ref 0), some (.int i1), some (.int i2), some (.int i3), some (.int i4), some (.int i5)] [] (ia, la, zRA pl dr cp cw rp) K = (vp_in i2 6 ∧ K (some (.int (ia 73 (i2).toNatClampNeg))) (ia, la, zRA pl dr cp cw rp)) := by
  refine (Q_aload_n zm_88 (Or.inl (by decide)) D88_115 rfl).trans ?_
  refine (Q_getR (q := 72) zm_88 (Or.inl (by decide)) D88_116 zf_9_31 zs_9_3 zk_0.1 rfl).trans ?_
  refine (Q_getR (q := 73) zm_88 (Or.inl (by decide)) D88_119 zf_9_148 zs_8_2 zk_72.1 rfl).trans ?_
  refine (Q_iload_n zm_88 (Or.inl (by decide)) D88_122 rfl).trans ?_
  refine (Q_iaload zm_88 (Or.inl (by decide)) D88_123 zk_73.1 zk_73.2).trans ?_
  refine zand_c (fun h0_ => ?_)
  exact Q_ireturn zm_88 (Or.inl (by decide)) D88_124 rfl

/-! HandsLet.end(I)I -/
theorem D89_0 : decode prog_1_method_16_code 0 = .ok (.aload_n 0, 1) := by decide +kernel
theorem D89_1 : decode prog_1_method_16_code 1 = .ok (.iload_n 1, 1) := by decide +kernel
theorem D89_2 : decode prog_1_method_16_code 2 = .ok (.invokevirtual 122, 3) := by decide +kernel
theorem D89_5 : decode prog_1_method_16_code 5 = .ok (.ifCond .ne 5, 3) := by decide +kernel
theorem D89_8 : decode prog_1_method_16_code 8 = .ok (.iconst (-1), 1) := by decide +kernel
theorem D89_9 : decode prog_1_method_16_code 9 = .ok (.ireturn, 1) := by decide +kernel
theorem D89_10 : decode prog_1_method_16_code 10 = .ok (.aload_n 0, 1) := by decide +kernel
theorem D89_11 : decode prog_1_method_16_code 11 = .ok (.getfield 31, 3) := by decide +kernel
theorem D89_14 : decode prog_1_method_16_code 14 = .ok (.iload_n 1, 1) := by decide +kernel
theorem D89_15 : decode prog_1_method_16_code 15 = .ok (.invokevirtual 214, 3) := by decide +kernel
theorem D89_18 : decode prog_1_method_16_code 18 = .ok (.ifCond .ne 6, 3) := by decide +kernel
theorem D89_21 : decode prog_1_method_16_code 21 = .ok (.bipush (-2), 2) := by decide +kernel
theorem D89_23 : decode prog_1_method_16_code 23 = .ok (.ireturn, 1) := by decide +kernel
theorem D89_24 : decode prog_1_method_16_code 24 = .ok (.aload_n 0, 1) := by decide +kernel
theorem D89_25 : decode prog_1_method_16_code 25 = .ok (.getfield 58, 3) := by decide +kernel
theorem D89_28 : decode prog_1_method_16_code 28 = .ok (.aload_n 0, 1) := by decide +kernel
theorem D89_29 : decode prog_1_method_16_code 29 = .ok (.getfield 31, 3) := by decide +kernel
theorem D89_32 : decode prog_1_method_16_code 32 = .ok (.iload_n 1, 1) := by decide +kernel
theorem D89_33 : decode prog_1_method_16_code 33 = .ok (.invokevirtual 206, 3) := by decide +kernel
theorem D89_36 : decode prog_1_method_16_code 36 = .ok (.aload_n 0, 1) := by decide +kernel
theorem D89_37 : decode prog_1_method_16_code 37 = .ok (.getfield 44, 3) := by decide +kernel
theorem D89_40 : decode prog_1_method_16_code 40 = .ok (.aload_n 0, 1) := by decide +kernel
theorem D89_41 : decode prog_1_method_16_code 41 = .ok (.getfield 21, 3) := by decide +kernel
theorem D89_44 : decode prog_1_method_16_code 44 = .ok (.aload_n 0, 1) := by decide +kernel
theorem D89_45 : decode prog_1_method_16_code 45 = .ok (.getfield 31, 3) := by decide +kernel
theorem D89_48 : decode prog_1_method_16_code 48 = .ok (.iconst 0, 1) := by decide +kernel
theorem D89_49 : decode prog_1_method_16_code 49 = .ok (.invokevirtual 195, 3) := by decide +kernel
theorem D89_52 : decode prog_1_method_16_code 52 = .ok (.aload_n 0, 1) := by decide +kernel
theorem D89_53 : decode prog_1_method_16_code 53 = .ok (.getfield 44, 3) := by decide +kernel
theorem D89_56 : decode prog_1_method_16_code 56 = .ok (.iload_n 1, 1) := by decide +kernel
theorem D89_57 : decode prog_1_method_16_code 57 = .ok (.invokevirtual 217, 3) := by decide +kernel
theorem D89_60 : decode prog_1_method_16_code 60 = .ok (.aload_n 0, 1) := by decide +kernel
theorem D89_61 : decode prog_1_method_16_code 61 = .ok (.getfield 31, 3) := by decide +kernel
theorem D89_64 : decode prog_1_method_16_code 64 = .ok (.getfield 138, 3) := by decide +kernel
theorem D89_67 : decode prog_1_method_16_code 67 = .ok (.iload_n 1, 1) := by decide +kernel
theorem D89_68 : decode prog_1_method_16_code 68 = .ok (.iaload, 1) := by decide +kernel
theorem D89_69 : decode prog_1_method_16_code 69 = .ok (.ireturn, 1) := by decide +kernel

theorem b89_0 {d : Nat} {i1 : Int32} {ia : Nat → Nat → Int32} {la : Nat → Nat → Int64} {pl dr : Nat} {cp : Option Nat} {cw : Option Nat} {rp : Option Nat} {K : Option Value → zHP → Prop}  : zWP (d + 1) 89 0 [some (.ref 0), some (.int i1)] [] (ia, la, zRA pl dr cp cw rp) K = zWM d 80 [.ref 0, .int i1] (ia, la, zRA pl dr cp cw rp) (zK (d + 1) 89 5 [some (.ref 0), some (.int i1)] [] K) := by
  refine (Q_aload_n zm_89 (Or.inl (by decide)) D89_0 rfl).trans ?_
  refine (Q_iload_n zm_89 (Or.inl (by decide)) D89_1 rfl).trans ?_
  exact Q_callv (as := [.int i1]) (b := 0) (rest := []) zm_89 (Or.inl (by decide)) D89_2 zc_9_122 rfl zk_0.1 (by decide) (by decide +kernel) (by decide) (by simp [zcat, Value.category]) zm_80 rfl

theorem b89_5 {d : Nat} {i1 : Int32} {s0 : Int32} {ia : Nat → Nat → Int32} {la : Nat → Nat → Int64} {pl dr : Nat} {cp : Option Nat} {cw : Option Nat} {rp : Option Nat} {K : Option Value → zHP → Prop}  : zWP (d + 1) 89 5 [some (.ref 0), some (.int i1)] [.int s0] (ia, la, zRA pl dr cp cw rp) K = (if ¬ s0 = 0 then zWM d 69 [.ref 72, .int i1] (ia, la, zRA pl dr cp cw rp) (zK (d + 1) 89 18 [some (.ref 0), some (.int i1)] [] K) else K (some (.int (-1 : Int32))) (ia, la, zRA pl dr cp cw rp)) := by
  refine (Q_if_ne (tgt := 10) zm_89 (Or.inl (by decide)) D89_5 (by decide)).trans ?_
  refine zif_c (fun h0_ => ?_) (fun h0_ => ?_)
  · refine (Q_aload_n zm_89 (Or.inl (by decide)) D89_10 rfl).trans ?_
    refine (Q_getR (q := 72) zm_89 (Or.inl (by decide)) D89_11 zf_9_31 zs_9_3 zk_0.1 rfl).trans ?_
    refine (Q_iload_n zm_89 (Or.inl (by decide)) D89_14 rfl).trans ?_
    exact Q_callv (as := [.int i1]) (b := 72) (rest := []) zm_89 (Or.inl (by decide)) D89_15 zc_9_214 rfl zk_72.1 (by decide) (by decide +kernel) (by decide) (by simp [zcat, Value.category]) zm_69 rfl
  · refine (Q_iconst (v := -1) zm_89 (Or.inl (by decide)) D89_8 (by decide)).trans ?_
    exact Q_ireturn zm_89 (Or.inl (by decide)) D89_9 rfl

theorem b89_18 {d : Nat} {i1 : Int32} {s0 : Int32} {ia : Nat → Nat → Int32} {la : Nat → Nat → Int64} {pl dr : Nat} {cp : Option Nat} {cw : Option Nat} {rp : Option Nat} {K : Option Value → zHP → Prop}  : zWP (d + 1) 89 18 [some (.ref 0), some (.int i1)] [.int s0] (ia, la, zRA pl dr cp cw rp) K = (if ¬ s0 = 0 then zWM d 12 [.ref 113, .ref 72, .int i1] (ia, la, zRA pl dr cp cw rp) (zK (d + 1) 89 36 [some (.ref 0), some (.int i1)] [] K) else K (some (.int (-2 : Int32))) (ia, la, zRA pl dr cp cw rp)) := by
  refine (Q_if_ne (tgt := 24) zm_89 (Or.inl (by decide)) D89_18 (by decide)).trans ?_
  refine zif_c (fun h0_ => ?_) (fun h0_ => ?_)
  · refine (Q_aload_n zm_89 (Or.inl (by decide)) D89_24 rfl).trans ?_
    refine (Q_getR (q := 113) zm_89 (Or.inl (by decide)) D89_25 zf_9_58 zs_9_9 zk_0.1 rfl).trans ?_
    refine (Q_aload_n zm_89 (Or.inl (by decide)) D89_28 rfl).trans ?_
    refine (Q_getR (q := 72) zm_89 (Or.inl (by decide)) D89_29 zf_9_31 zs_9_3 zk_0.1 rfl).trans ?_
    refine (Q_iload_n zm_89 (Or.inl (by decide)) D89_32 rfl).trans ?_
    exact Q_callv (as := [.ref 72, .int i1]) (b := 113) (rest := []) zm_89 (Or.inl (by decide)) D89_33 zc_9_206 rfl zk_113.1 (by decide) (by decide +kernel) (by decide) (by simp [zcat, Value.category]) zm_12 rfl
  · refine (Q_bipush (v := -2) zm_89 (Or.inl (by decide)) D89_21 (by decide)).trans ?_
    exact Q_ireturn zm_89 (Or.inl (by decide)) D89_23 rfl

theorem b89_36 {d : Nat} {i1 : Int32} {ia : Nat → Nat → Int32} {la : Nat → Nat → Int64} {pl dr : Nat} {cp : Option Nat} {cw : Option Nat} {rp : Option Nat} {K : Option Value → zHP → Prop}  : zWP (d + 1) 89 36 [some (.ref 0), some (.int i1)] [] (ia, la, zRA pl dr cp cw rp) K = zWM d 0 [.ref 102, .ref pl, .ref 72, .int (0 : Int32)] (ia, la, zRA pl dr cp cw rp) (zK (d + 1) 89 52 [some (.ref 0), some (.int i1)] [] K) := by
  refine (Q_aload_n zm_89 (Or.inl (by decide)) D89_36 rfl).trans ?_
  refine (Q_getR (q := 102) zm_89 (Or.inl (by decide)) D89_37 zf_9_44 zs_9_7 zk_0.1 rfl).trans ?_
  refine (Q_aload_n zm_89 (Or.inl (by decide)) D89_40 rfl).trans ?_
  refine (Q_getR (q := pl) zm_89 (Or.inl (by decide)) D89_41 zf_9_21 zs_9_1 zk_0.1 rfl).trans ?_
  refine (Q_aload_n zm_89 (Or.inl (by decide)) D89_44 rfl).trans ?_
  refine (Q_getR (q := 72) zm_89 (Or.inl (by decide)) D89_45 zf_9_31 zs_9_3 zk_0.1 rfl).trans ?_
  refine (Q_iconst (v := 0) zm_89 (Or.inl (by decide)) D89_48 (by decide)).trans ?_
  exact Q_callv (as := [.ref pl, .ref 72, .int (0 : Int32)]) (b := 102) (rest := []) zm_89 (Or.inl (by decide)) D89_49 zc_9_195 rfl zk_102.1 (by decide) (by decide +kernel) (by decide) (by simp [zcat, Value.category]) zm_0 rfl

theorem b89_52 {d : Nat} {i1 : Int32} {ia : Nat → Nat → Int32} {la : Nat → Nat → Int64} {pl dr : Nat} {cp : Option Nat} {cw : Option Nat} {rp : Option Nat} {K : Option Value → zHP → Prop}  : zWP (d + 1) 89 52 [some (.ref 0), some (.int i1)] [] (ia, la, zRA pl dr cp cw rp) K = zWM d 9 [.ref 102, .int i1] (ia, la, zRA pl dr cp cw rp) (zK (d + 1) 89 60 [some (.ref 0), some (.int i1)] [] K) := by
  refine (Q_aload_n zm_89 (Or.inl (by decide)) D89_52 rfl).trans ?_
  refine (Q_getR (q := 102) zm_89 (Or.inl (by decide)) D89_53 zf_9_44 zs_9_7 zk_0.1 rfl).trans ?_
  refine (Q_iload_n zm_89 (Or.inl (by decide)) D89_56 rfl).trans ?_
  exact Q_callv (as := [.int i1]) (b := 102) (rest := []) zm_89 (Or.inl (by decide)) D89_57 zc_9_217 rfl zk_102.1 (by decide) (by decide +kernel) (by decide) (by simp [zcat, Value.category]) zm_9 rfl

theorem b89_60 {d : Nat} {i1 : Int32} {ia : Nat → Nat → Int32} {la : Nat → Nat → Int64} {pl dr : Nat} {cp : Option Nat} {cw : Option Nat} {rp : Option Nat} {K : Option Value → zHP → Prop}  : zWP d 89 60 [some (.ref 0), some (.int i1)] [] (ia, la, zRA pl dr cp cw rp) K = (vp_in i1 6 ∧ K (some (.int (ia 77 (i1).toNatClampNeg))) (ia, la, zRA pl dr cp cw rp)) := by
  refine (Q_aload_n zm_89 (Or.inl (by decide)) D89_60 rfl).trans ?_
  refine (Q_getR (q := 72) zm_89 (Or.inl (by decide)) D89_61 zf_9_31 zs_9_3 zk_0.1 rfl).trans ?_
  refine (Q_getR (q := 77) zm_89 (Or.inl (by decide)) D89_64 zf_9_138 zs_8_6 zk_72.1 rfl).trans ?_
  refine (Q_iload_n zm_89 (Or.inl (by decide)) D89_67 rfl).trans ?_
  refine (Q_iaload zm_89 (Or.inl (by decide)) D89_68 zk_77.1 zk_77.2).trans ?_
  refine zand_c (fun h0_ => ?_)
  exact Q_ireturn zm_89 (Or.inl (by decide)) D89_69 rfl

/-! HandsLet.teach(I)I -/
theorem D90_0 : decode prog_1_method_17_code 0 = .ok (.aload_n 0, 1) := by decide +kernel
theorem D90_1 : decode prog_1_method_17_code 1 = .ok (.iload_n 1, 1) := by decide +kernel
theorem D90_2 : decode prog_1_method_17_code 2 = .ok (.invokevirtual 122, 3) := by decide +kernel
theorem D90_5 : decode prog_1_method_17_code 5 = .ok (.ifCond .ne 5, 3) := by decide +kernel
theorem D90_8 : decode prog_1_method_17_code 8 = .ok (.iconst (-1), 1) := by decide +kernel
theorem D90_9 : decode prog_1_method_17_code 9 = .ok (.ireturn, 1) := by decide +kernel
theorem D90_10 : decode prog_1_method_17_code 10 = .ok (.aload_n 0, 1) := by decide +kernel
theorem D90_11 : decode prog_1_method_17_code 11 = .ok (.getfield 31, 3) := by decide +kernel
theorem D90_14 : decode prog_1_method_17_code 14 = .ok (.iload_n 1, 1) := by decide +kernel
theorem D90_15 : decode prog_1_method_17_code 15 = .ok (.invokevirtual 214, 3) := by decide +kernel
theorem D90_18 : decode prog_1_method_17_code 18 = .ok (.ifCond .eq 6, 3) := by decide +kernel
theorem D90_21 : decode prog_1_method_17_code 21 = .ok (.bipush (-2), 2) := by decide +kernel
theorem D90_23 : decode prog_1_method_17_code 23 = .ok (.ireturn, 1) := by decide +kernel
theorem D90_24 : decode prog_1_method_17_code 24 = .ok (.aload_n 0, 1) := by decide +kernel
theorem D90_25 : decode prog_1_method_17_code 25 = .ok (.getfield 58, 3) := by decide +kernel
theorem D90_28 : decode prog_1_method_17_code 28 = .ok (.aload_n 0, 1) := by decide +kernel
theorem D90_29 : decode prog_1_method_17_code 29 = .ok (.getfield 31, 3) := by decide +kernel
theorem D90_32 : decode prog_1_method_17_code 32 = .ok (.iload_n 1, 1) := by decide +kernel
theorem D90_33 : decode prog_1_method_17_code 33 = .ok (.invokevirtual 206, 3) := by decide +kernel
theorem D90_36 : decode prog_1_method_17_code 36 = .ok (.iload_n 1, 1) := by decide +kernel
theorem D90_37 : decode prog_1_method_17_code 37 = .ok (.iconst 3, 1) := by decide +kernel
theorem D90_38 : decode prog_1_method_17_code 38 = .ok (.imul, 1) := by decide +kernel
theorem D90_39 : decode prog_1_method_17_code 39 = .ok (.istore_n 2, 1) := by decide +kernel
theorem D90_40 : decode prog_1_method_17_code 40 = .ok (.iload_n 2, 1) := by decide +kernel
theorem D90_41 : decode prog_1_method_17_code 41 = .ok (.iload_n 1, 1) := by decide +kernel
theorem D90_42 : decode prog_1_method_17_code 42 = .ok (.iconst 3, 1) := by decide +kernel
theorem D90_43 : decode prog_1_method_17_code 43 = .ok (.imul, 1) := by decide +kernel
theorem D90_44 : decode prog_1_method_17_code 44 = .ok (.iconst 3, 1) := by decide +kernel
theorem D90_45 : decode prog_1_method_17_code 45 = .ok (.iadd, 1) := by decide +kernel
theorem D90_46 : decode prog_1_method_17_code 46 = .ok (.if_icmp .ge 46, 3) := by decide +kernel
theorem D90_49 : decode prog_1_method_17_code 49 = .ok (.aload_n 0, 1) := by decide +kernel
theorem D90_50 : decode prog_1_method_17_code 50 = .ok (.getfield 31, 3) := by decide +kernel
theorem D90_53 : decode prog_1_method_17_code 53 = .ok (.getfield 129, 3) := by decide +kernel
theorem D90_56 : decode prog_1_method_17_code 56 = .ok (.iload_n 2, 1) := by decide +kernel
theorem D90_57 : decode prog_1_method_17_code 57 = .ok (.dup2, 1) := by decide +kernel
theorem D90_58 : decode prog_1_method_17_code 58 = .ok (.iaload, 1) := by decide +kernel
theorem D90_59 : decode prog_1_method_17_code 59 = .ok (.sipush 1000, 3) := by decide +kernel
theorem D90_62 : decode prog_1_method_17_code 62 = .ok (.aload_n 0, 1) := by decide +kernel
theorem D90_63 : decode prog_1_method_17_code 63 = .ok (.getfield 21, 3) := by decide +kernel
theorem D90_66 : decode prog_1_method_17_code 66 = .ok (.getfield 147, 3) := by decide +kernel
theorem D90_69 : decode prog_1_method_17_code 69 = .ok (.iload_n 2, 1) := by decide +kernel
theorem D90_70 : decode prog_1_method_17_code 70 = .ok (.iaload, 1) := by decide +kernel
theorem D90_71 : decode prog_1_method_17_code 71 = .ok (.imul, 1) := by decide +kernel
theorem D90_72 : decode prog_1_method_17_code 72 = .ok (.aload_n 0, 1) := by decide +kernel
theorem D90_73 : decode prog_1_method_17_code 73 = .ok (.getfield 31, 3) := by decide +kernel
theorem D90_76 : decode prog_1_method_17_code 76 = .ok (.getfield 129, 3) := by decide +kernel
theorem D90_79 : decode prog_1_method_17_code 79 = .ok (.iload_n 2, 1) := by decide +kernel
theorem D90_80 : decode prog_1_method_17_code 80 = .ok (.iaload, 1) := by decide +kernel
theorem D90_81 : decode prog_1_method_17_code 81 = .ok (.isub, 1) := by decide +kernel
theorem D90_82 : decode prog_1_method_17_code 82 = .ok (.iconst 2, 1) := by decide +kernel
theorem D90_83 : decode prog_1_method_17_code 83 = .ok (.idiv, 1) := by decide +kernel
theorem D90_84 : decode prog_1_method_17_code 84 = .ok (.iadd, 1) := by decide +kernel
theorem D90_85 : decode prog_1_method_17_code 85 = .ok (.iastore, 1) := by decide +kernel
theorem D90_86 : decode prog_1_method_17_code 86 = .ok (.iinc 2 1, 3) := by decide +kernel
theorem D90_89 : decode prog_1_method_17_code 89 = .ok (.goto (-49), 3) := by decide +kernel
theorem D90_92 : decode prog_1_method_17_code 92 = .ok (.aload_n 0, 1) := by decide +kernel
theorem D90_93 : decode prog_1_method_17_code 93 = .ok (.aload_n 0, 1) := by decide +kernel
theorem D90_94 : decode prog_1_method_17_code 94 = .ok (.getfield 31, 3) := by decide +kernel
theorem D90_97 : decode prog_1_method_17_code 97 = .ok (.getfield 129, 3) := by decide +kernel
theorem D90_100 : decode prog_1_method_17_code 100 = .ok (.iload_n 1, 1) := by decide +kernel
theorem D90_101 : decode prog_1_method_17_code 101 = .ok (.iload_n 1, 1) := by decide +kernel
theorem D90_102 : decode prog_1_method_17_code 102 = .ok (.invokevirtual 220, 3) := by decide +kernel
theorem D90_105 : decode prog_1_method_17_code 105 = .ok (.ireturn, 1) := by decide +kernel

theorem b90_0 {d : Nat} {i1 : Int32} {ia : Nat → Nat → Int32} {la : Nat → Nat → Int64} {pl dr : Nat} {cp : Option Nat} {cw : Option Nat} {rp : Option Nat} {K : Option Value → zHP → Prop}  : zWP (d + 1) 90 0 [some (.ref 0), some (.int i1), none] [] (ia, la, zRA pl dr cp cw rp) K = zWM d 80 [.ref 0, .int i1] (ia, la, zRA pl dr cp cw rp) (zK (d + 1) 90 5 [some (.ref 0), some (.int i1), none] [] K) := by
  refine (Q_aload_n zm_90 (Or.inl (by decide)) D90_0 rfl).trans ?_
  refine (Q_iload_n zm_90 (Or.inl (by decide)) D90_1 rfl).trans ?_
  exact Q_callv (as := [.int i1]) (b := 0) (rest := []) zm_90 (Or.inl (by decide)) D90_2 zc_9_122 rfl zk_0.1 (by decide) (by decide +kernel) (by decide) (by simp [zcat, Value.category]) zm_80 rfl

theorem b90_5 {d : Nat} {i1 : Int32} {s0 : Int32} {ia : Nat → Nat → Int32} {la : Nat → Nat → Int64} {pl dr : Nat} {cp : Option Nat} {cw : Option Nat} {rp : Option Nat} {K : Option Value → zHP → Prop}  : zWP (d + 1) 90 5 [some (.ref 0), some (.int i1), none] [.int s0] (ia, la, zRA pl dr cp cw rp) K = (if ¬ s0 = 0 then zWM d 69 [.ref 72, .int i1] (ia, la, zRA pl dr cp cw rp) (zK (d + 1) 90 18 [some (.ref 0), some (.int i1), none] [] K) else K (some (.int (-1 : Int32))) (ia, la, zRA pl dr cp cw rp)) := by
  refine (Q_if_ne (tgt := 10) zm_90 (Or.inl (by decide)) D90_5 (by decide)).trans ?_
  refine zif_c (fun h0_ => ?_) (fun h0_ => ?_)
  · refine (Q_aload_n zm_90 (Or.inl (by decide)) D90_10 rfl).trans ?_
    refine (Q_getR (q := 72) zm_90 (Or.inl (by decide)) D90_11 zf_9_31 zs_9_3 zk_0.1 rfl).trans ?_
    refine (Q_iload_n zm_90 (Or.inl (by decide)) D90_14 rfl).trans ?_
    exact Q_callv (as := [.int i1]) (b := 72) (rest := []) zm_90 (Or.inl (by decide)) D90_15 zc_9_214 rfl zk_72.1 (by decide) (by decide +kernel) (by decide) (by simp [zcat, Value.category]) zm_69 rfl
  · refine (Q_iconst (v := -1) zm_90 (Or.inl (by decide)) D90_8 (by decide)).trans ?_
    exact Q_ireturn zm_90 (Or.inl (by decide)) D90_9 rfl

theorem b90_18 {d : Nat} {i1 : Int32} {s0 : Int32} {ia : Nat → Nat → Int32} {la : Nat → Nat → Int64} {pl dr : Nat} {cp : Option Nat} {cw : Option Nat} {rp : Option Nat} {K : Option Value → zHP → Prop}  : zWP (d + 1) 90 18 [some (.ref 0), some (.int i1), none] [.int s0] (ia, la, zRA pl dr cp cw rp) K = (if s0 = 0 then zWM d 12 [.ref 113, .ref 72, .int i1] (ia, la, zRA pl dr cp cw rp) (zK (d + 1) 90 36 [some (.ref 0), some (.int i1), none] [] K) else K (some (.int (-2 : Int32))) (ia, la, zRA pl dr cp cw rp)) := by
  refine (Q_if_eq (tgt := 24) zm_90 (Or.inl (by decide)) D90_18 (by decide)).trans ?_
  refine zif_c (fun h0_ => ?_) (fun h0_ => ?_)
  · refine (Q_aload_n zm_90 (Or.inl (by decide)) D90_24 rfl).trans ?_
    refine (Q_getR (q := 113) zm_90 (Or.inl (by decide)) D90_25 zf_9_58 zs_9_9 zk_0.1 rfl).trans ?_
    refine (Q_aload_n zm_90 (Or.inl (by decide)) D90_28 rfl).trans ?_
    refine (Q_getR (q := 72) zm_90 (Or.inl (by decide)) D90_29 zf_9_31 zs_9_3 zk_0.1 rfl).trans ?_
    refine (Q_iload_n zm_90 (Or.inl (by decide)) D90_32 rfl).trans ?_
    exact Q_callv (as := [.ref 72, .int i1]) (b := 113) (rest := []) zm_90 (Or.inl (by decide)) D90_33 zc_9_206 rfl zk_113.1 (by decide) (by decide +kernel) (by decide) (by simp [zcat, Value.category]) zm_12 rfl
  · refine (Q_bipush (v := -2) zm_90 (Or.inl (by decide)) D90_21 (by decide)).trans ?_
    exact Q_ireturn zm_90 (Or.inl (by decide)) D90_23 rfl

theorem b90_36 {d : Nat} {i1 : Int32} {ia : Nat → Nat → Int32} {la : Nat → Nat → Int64} {pl dr : Nat} {cp : Option Nat} {cw : Option Nat} {rp : Option Nat} {K : Option Value → zHP → Prop}  : zWP d 90 36 [some (.ref 0), some (.int i1), none] [] (ia, la, zRA pl dr cp cw rp) K = zWP d 90 40 [some (.ref 0), some (.int i1), some (.int (i1 * (3 : Int32)))] [] (ia, la, zRA pl dr cp cw rp) K := by
  refine (Q_iload_n zm_90 (Or.inl (by decide)) D90_36 rfl).trans ?_
  refine (Q_iconst (v := 3) zm_90 (Or.inl (by decide)) D90_37 (by decide)).trans ?_
  refine (Q_imul zm_90 (Or.inl (by decide)) D90_38).trans ?_
  refine (Q_istore_n (ls' := [some (.ref 0), some (.int i1), some (.int (i1 * (3 : Int32)))]) zm_90 (Or.inl (by decide)) D90_39 rfl (Nat.le_of_ble_eq_true rfl) rfl).trans ?_
  rfl

theorem b90_40 {d : Nat} {i1 : Int32} {i2 : Int32} {ia : Nat → Nat → Int32} {la : Nat → Nat → Int64} {pl dr : Nat} {cp : Option Nat} {cw : Option Nat} {rp : Option Nat} {K : Option Value → zHP → Prop} (hpl : zIsP pl) : zWP (d + 1) 90 40 [some (.ref 0), some (.int i1), some (.int i2)] [] (ia, la, zRA pl dr cp cw rp) K = (if ((i1 * (3 : Int32)) + (3 : Int32)) ≤ i2 then zWM d 95 [.ref 0, .ref 74, .int i1, .int i1] (ia, la, zRA pl dr cp cw rp) (zK (d + 1) 90 105 [some (.ref 0), some (.int i1), some (.int i2)] [] K) else (vp_in i2 18 ∧ zWP (d + 1) 90 40 [some (.ref 0), some (.int i1), some (.int (i2 + (1 : Int32)))] [] ((zu ia 74 (i2).toNatClampNeg ((ia 74 (i2).toNatClampNeg) + ((((1000 : Int32) * (ia (pl + 2) (i2).toNatClampNeg)) - (ia 74 (i2).toNatClampNeg)) / (2 : Int32)))), la, zRA pl dr cp cw rp) K)) := by
  refine (Q_iload_n zm_90 (Or.inl (by decide)) D90_40 rfl).trans ?_
  refine (Q_iload_n zm_90 (Or.inl (by decide)) D90_41 rfl).trans ?_
  refine (Q_iconst (v := 3) zm_90 (Or.inl (by decide)) D90_42 (by decide)).trans ?_
  refine (Q_imul zm_90 (Or.inl (by decide)) D90_43).trans ?_
  refine (Q_iconst (v := 3) zm_90 (Or.inl (by decide)) D90_44 (by decide)).trans ?_
  refine (Q_iadd zm_90 (Or.inl (by decide)) D90_45).trans ?_
  refine (Q_ic_ge (tgt := 92) zm_90 (Or.inl (by decide)) D90_46 (by decide)).trans ?_
  refine zif_c (fun h0_ => ?_) (fun h0_ => ?_)
  · refine (Q_aload_n zm_90 (Or.inl (by decide)) D90_92 rfl).trans ?_
    refine (Q_aload_n zm_90 (Or.inl (by decide)) D90_93 rfl).trans ?_
    refine (Q_getR (q := 72) zm_90 (Or.inl (by decide)) D90_94 zf_9_31 zs_9_3 zk_0.1 rfl).trans ?_
    refine (Q_getR (q := 74) zm_90 (Or.inl (by decide)) D90_97 zf_9_129 zs_8_3 zk_72.1 rfl).trans ?_
    refine (Q_iload_n zm_90 (Or.inl (by decide)) D90_100 rfl).trans ?_
    refine (Q_iload_n zm_90 (Or.inl (by decide)) D90_101 rfl).trans ?_
    exact Q_callv (as := [.ref 74, .int i1, .int i1]) (b := 0) (rest := []) zm_90 (Or.inl (by decide)) D90_102 zc_9_220 rfl zk_0.1 (by decide) (by decide +kernel) (by decide) (by simp [zcat, Value.category]) zm_95 rfl
  · refine (Q_aload_n zm_90 (Or.inl (by decide)) D90_49 rfl).trans ?_
    refine (Q_getR (q := 72) zm_90 (Or.inl (by decide)) D90_50 zf_9_31 zs_9_3 zk_0.1 rfl).trans ?_
    refine (Q_getR (q := 74) zm_90 (Or.inl (by decide)) D90_53 zf_9_129 zs_8_3 zk_72.1 rfl).trans ?_
    refine (Q_iload_n zm_90 (Or.inl (by decide)) D90_56 rfl).trans ?_
    refine (Q_dup2 zm_90 (Or.inl (by decide)) D90_57 rfl rfl).trans ?_
    refine (Q_iaload zm_90 (Or.inl (by decide)) D90_58 zk_74.1 zk_74.2).trans ?_
    refine zand_c (fun h1_ => ?_)
    refine (Q_sipush (v := 1000) zm_90 (Or.inl (by decide)) D90_59 (by decide)).trans ?_
    refine (Q_aload_n zm_90 (Or.inl (by decide)) D90_62 rfl).trans ?_
    refine (Q_getR (q := pl) zm_90 (Or.inl (by decide)) D90_63 zf_9_21 zs_9_1 zk_0.1 rfl).trans ?_
    refine (Q_getR (q := (pl + 2)) zm_90 (Or.inl (by decide)) D90_66 zf_9_147 zs_3_6 (zkp_0 hpl).1 (zrp_6 hpl)).trans ?_
    refine (Q_iload_n zm_90 (Or.inl (by decide)) D90_69 rfl).trans ?_
    refine ((Q_iaload zm_90 (Or.inl (by decide)) D90_70 (zkp_2 hpl).1 (zkp_2 hpl).2).trans (zdrop h1_)).trans ?_
    refine (Q_imul zm_90 (Or.inl (by decide)) D90_71).trans ?_
    refine (Q_aload_n zm_90 (Or.inl (by decide)) D90_72 rfl).trans ?_
    refine (Q_getR (q := 72) zm_90 (Or.inl (by decide)) D90_73 zf_9_31 zs_9_3 zk_0.1 rfl).trans ?_
    refine (Q_getR (q := 74) zm_90 (Or.inl (by decide)) D90_76 zf_9_129 zs_8_3 zk_72.1 rfl).trans ?_
    refine (Q_iload_n zm_90 (Or.inl (by decide)) D90_79 rfl).trans ?_
    refine ((Q_iaload zm_90 (Or.inl (by decide)) D90_80 zk_74.1 zk_74.2).trans (zdrop h1_)).trans ?_
    refine (Q_isub zm_90 (Or.inl (by decide)) D90_81).trans ?_
    refine (Q_iconst (v := 2) zm_90 (Or.inl (by decide)) D90_82 (by decide)).trans ?_
    refine (Q_idiv zm_90 (Or.inl (by decide)) D90_83 (by decide)).trans ?_
    refine (Q_iadd zm_90 (Or.inl (by decide)) D90_84).trans ?_
    refine ((Q_iastore zm_90 (Or.inl (by decide)) D90_85 zk_74.1 zk_74.2).trans (zdrop h1_)).trans ?_
    refine (Q_iinc (v := 1) (ls' := [some (.ref 0), some (.int i1), some (.int (i2 + (1 : Int32)))]) zm_90 (Or.inl (by decide)) D90_86 rfl rfl (by decide) rfl).trans ?_
    refine (Q_goto (tgt := 40) zm_90 (Or.inl (by decide)) D90_89 (by decide)).trans ?_
    rfl

theorem b90_105 {d : Nat} {i1 : Int32} {i2 : Int32} {s0 : Int32} {ia : Nat → Nat → Int32} {la : Nat → Nat → Int64} {pl dr : Nat} {cp : Option Nat} {cw : Option Nat} {rp : Option Nat} {K : Option Value → zHP → Prop}  : zWP d 90 105 [some (.ref 0), some (.int i1), some (.int i2)] [.int s0] (ia, la, zRA pl dr cp cw rp) K = K (some (.int s0)) (ia, la, zRA pl dr cp cw rp) := by
  exact Q_ireturn zm_90 (Or.inl (by decide)) D90_105 rfl

/-! HandsLet.go(I)I -/
theorem D91_0 : decode prog_1_method_18_code 0 = .ok (.iload_n 1, 1) := by decide +kernel
theorem D91_1 : decode prog_1_method_18_code 1 = .ok (.ifCond .lt 25, 3) := by decide +kernel
theorem D91_4 : decode prog_1_method_18_code 4 = .ok (.iload_n 1, 1) := by decide +kernel
theorem D91_5 : decode prog_1_method_18_code 5 = .ok (.sipush 200, 3) := by decide +kernel
theorem D91_8 : decode prog_1_method_18_code 8 = .ok (.if_icmp .gt 18, 3) := by decide +kernel
theorem D91_11 : decode prog_1_method_18_code 11 = .ok (.aload_n 0, 1) := by decide +kernel
theorem D91_12 : decode prog_1_method_18_code 12 = .ok (.getfield 31, 3) := by decide +kernel
theorem D91_15 : decode prog_1_method_18_code 15 = .ok (.getfield 224, 3) := by decide +kernel
theorem D91_18 : decode prog_1_method_18_code 18 = .ok (.iload_n 1, 1) := by decide +kernel
theorem D91_19 : decode prog_1_method_18_code 19 = .ok (.iadd, 1) := by decide +kernel
theorem D91_20 : decode prog_1_method_18_code 20 = .ok (.sipush 9800, 3) := by decide +kernel
theorem D91_23 : decode prog_1_method_18_code 23 = .ok (.if_icmp .le 5, 3) := by decide +kernel
theorem D91_26 : decode prog_1_method_18_code 26 = .ok (.iconst (-1), 1) := by decide +kernel
theorem D91_27 : decode prog_1_method_18_code 27 = .ok (.ireturn, 1) := by decide +kernel
theorem D91_28 : decode prog_1_method_18_code 28 = .ok (.aload_n 0, 1) := by decide +kernel
theorem D91_29 : decode prog_1_method_18_code 29 = .ok (.getfield 44, 3) := by decide +kernel
theorem D91_32 : decode prog_1_method_18_code 32 = .ok (.aload_n 0, 1) := by decide +kernel
theorem D91_33 : decode prog_1_method_18_code 33 = .ok (.getfield 21, 3) := by decide +kernel
theorem D91_36 : decode prog_1_method_18_code 36 = .ok (.aload_n 0, 1) := by decide +kernel
theorem D91_37 : decode prog_1_method_18_code 37 = .ok (.getfield 31, 3) := by decide +kernel
theorem D91_40 : decode prog_1_method_18_code 40 = .ok (.iconst 0, 1) := by decide +kernel
theorem D91_41 : decode prog_1_method_18_code 41 = .ok (.invokevirtual 195, 3) := by decide +kernel
theorem D91_44 : decode prog_1_method_18_code 44 = .ok (.aload_n 0, 1) := by decide +kernel
theorem D91_45 : decode prog_1_method_18_code 45 = .ok (.getfield 44, 3) := by decide +kernel
theorem D91_48 : decode prog_1_method_18_code 48 = .ok (.iload_n 1, 1) := by decide +kernel
theorem D91_49 : decode prog_1_method_18_code 49 = .ok (.invokevirtual 227, 3) := by decide +kernel
theorem D91_52 : decode prog_1_method_18_code 52 = .ok (.iload_n 1, 1) := by decide +kernel
theorem D91_53 : decode prog_1_method_18_code 53 = .ok (.ifCond .le 10, 3) := by decide +kernel
theorem D91_56 : decode prog_1_method_18_code 56 = .ok (.aload_n 0, 1) := by decide +kernel
theorem D91_57 : decode prog_1_method_18_code 57 = .ok (.getfield 58, 3) := by decide +kernel
theorem D91_60 : decode prog_1_method_18_code 60 = .ok (.invokevirtual 105, 3) := by decide +kernel
theorem D91_63 : decode prog_1_method_18_code 63 = .ok (.aload_n 0, 1) := by decide +kernel
theorem D91_64 : decode prog_1_method_18_code 64 = .ok (.getfield 31, 3) := by decide +kernel
theorem D91_67 : decode prog_1_method_18_code 67 = .ok (.getfield 224, 3) := by decide +kernel
theorem D91_70 : decode prog_1_method_18_code 70 = .ok (.ireturn, 1) := by decide +kernel

theorem b91_0 {d : Nat} {i1 : Int32} {ia : Nat → Nat → Int32} {la : Nat → Nat → Int64} {pl dr : Nat} {cp : Option Nat} {cw : Option Nat} {rp : Option Nat} {K : Option Value → zHP → Prop}  : zWP (d + 1) 91 0 [some (.ref 0), some (.int i1)] [] (ia, la, zRA pl dr cp cw rp) K = (if i1 < 0 then K (some (.int (-1 : Int32))) (ia, la, zRA pl dr cp cw rp) else (if (200 : Int32) < i1 then K (some (.int (-1 : Int32))) (ia, la, zRA pl dr cp cw rp) else (if ((ia 72 0) + i1) ≤ (9800 : Int32) then zWM d 0 [.ref 102, .ref pl, .ref 72, .int (0 : Int32)] (ia, la, zRA pl dr cp cw rp) (zK (d + 1) 91 44 [some (.ref 0), some (.int i1)] [] K) else K (some (.int (-1 : Int32))) (ia, la, zRA pl dr cp cw rp)))) := by
  refine (Q_iload_n zm_91 (Or.inl (by decide)) D91_0 rfl).trans ?_
  refine (Q_if_lt (tgt := 26) zm_91 (Or.inl (by decide)) D91_1 (by decide)).trans ?_
  refine zif_c (fun h0_ => ?_) (fun h0_ => ?_)
  · refine (Q_iconst (v := -1) zm_91 (Or.inl (by decide)) D91_26 (by decide)).trans ?_
    exact Q_ireturn zm_91 (Or.inl (by decide)) D91_27 rfl
  · refine (Q_iload_n zm_91 (Or.inl (by decide)) D91_4 rfl).trans ?_
    refine (Q_sipush (v := 200) zm_91 (Or.inl (by decide)) D91_5 (by decide)).trans ?_
    refine (Q_ic_gt (tgt := 26) zm_91 (Or.inl (by decide)) D91_8 (by decide)).trans ?_
    refine zif_c (fun h1_ => ?_) (fun h1_ => ?_)
    · refine (Q_iconst (v := -1) zm_91 (Or.inl (by decide)) D91_26 (by decide)).trans ?_
      exact Q_ireturn zm_91 (Or.inl (by decide)) D91_27 rfl
    · refine (Q_aload_n zm_91 (Or.inl (by decide)) D91_11 rfl).trans ?_
      refine (Q_getR (q := 72) zm_91 (Or.inl (by decide)) D91_12 zf_9_31 zs_9_3 zk_0.1 rfl).trans ?_
      refine (Q_getI zm_91 (Or.inl (by decide)) D91_15 zf_9_224 (Or.inl zs_8_0) zk_72.1).trans ?_
      refine (Q_iload_n zm_91 (Or.inl (by decide)) D91_18 rfl).trans ?_
      refine (Q_iadd zm_91 (Or.inl (by decide)) D91_19).trans ?_
      refine (Q_sipush (v := 9800) zm_91 (Or.inl (by decide)) D91_20 (by decide)).trans ?_
      refine (Q_ic_le (tgt := 28) zm_91 (Or.inl (by decide)) D91_23 (by decide)).trans ?_
      refine zif_c (fun h2_ => ?_) (fun h2_ => ?_)
      · refine (Q_aload_n zm_91 (Or.inl (by decide)) D91_28 rfl).trans ?_
        refine (Q_getR (q := 102) zm_91 (Or.inl (by decide)) D91_29 zf_9_44 zs_9_7 zk_0.1 rfl).trans ?_
        refine (Q_aload_n zm_91 (Or.inl (by decide)) D91_32 rfl).trans ?_
        refine (Q_getR (q := pl) zm_91 (Or.inl (by decide)) D91_33 zf_9_21 zs_9_1 zk_0.1 rfl).trans ?_
        refine (Q_aload_n zm_91 (Or.inl (by decide)) D91_36 rfl).trans ?_
        refine (Q_getR (q := 72) zm_91 (Or.inl (by decide)) D91_37 zf_9_31 zs_9_3 zk_0.1 rfl).trans ?_
        refine (Q_iconst (v := 0) zm_91 (Or.inl (by decide)) D91_40 (by decide)).trans ?_
        exact Q_callv (as := [.ref pl, .ref 72, .int (0 : Int32)]) (b := 102) (rest := []) zm_91 (Or.inl (by decide)) D91_41 zc_9_195 rfl zk_102.1 (by decide) (by decide +kernel) (by decide) (by simp [zcat, Value.category]) zm_0 rfl
      · refine (Q_iconst (v := -1) zm_91 (Or.inl (by decide)) D91_26 (by decide)).trans ?_
        exact Q_ireturn zm_91 (Or.inl (by decide)) D91_27 rfl

theorem b91_44 {d : Nat} {i1 : Int32} {ia : Nat → Nat → Int32} {la : Nat → Nat → Int64} {pl dr : Nat} {cp : Option Nat} {cw : Option Nat} {rp : Option Nat} {K : Option Value → zHP → Prop}  : zWP (d + 1) 91 44 [some (.ref 0), some (.int i1)] [] (ia, la, zRA pl dr cp cw rp) K = zWM d 1 [.ref 102, .int i1] (ia, la, zRA pl dr cp cw rp) (zK (d + 1) 91 52 [some (.ref 0), some (.int i1)] [] K) := by
  refine (Q_aload_n zm_91 (Or.inl (by decide)) D91_44 rfl).trans ?_
  refine (Q_getR (q := 102) zm_91 (Or.inl (by decide)) D91_45 zf_9_44 zs_9_7 zk_0.1 rfl).trans ?_
  refine (Q_iload_n zm_91 (Or.inl (by decide)) D91_48 rfl).trans ?_
  exact Q_callv (as := [.int i1]) (b := 102) (rest := []) zm_91 (Or.inl (by decide)) D91_49 zc_9_227 rfl zk_102.1 (by decide) (by decide +kernel) (by decide) (by simp [zcat, Value.category]) zm_1 rfl

theorem b91_52 {d : Nat} {i1 : Int32} {ia : Nat → Nat → Int32} {la : Nat → Nat → Int64} {pl dr : Nat} {cp : Option Nat} {cw : Option Nat} {rp : Option Nat} {K : Option Value → zHP → Prop}  : zWP (d + 1) 91 52 [some (.ref 0), some (.int i1)] [] (ia, la, zRA pl dr cp cw rp) K = (if i1 ≤ 0 then K (some (.int (ia 72 0))) (ia, la, zRA pl dr cp cw rp) else zWM d 11 [.ref 113] (ia, la, zRA pl dr cp cw rp) (zK (d + 1) 91 63 [some (.ref 0), some (.int i1)] [] K)) := by
  refine (Q_iload_n zm_91 (Or.inl (by decide)) D91_52 rfl).trans ?_
  refine (Q_if_le (tgt := 63) zm_91 (Or.inl (by decide)) D91_53 (by decide)).trans ?_
  refine zif_c (fun h0_ => ?_) (fun h0_ => ?_)
  · refine (Q_aload_n zm_91 (Or.inl (by decide)) D91_63 rfl).trans ?_
    refine (Q_getR (q := 72) zm_91 (Or.inl (by decide)) D91_64 zf_9_31 zs_9_3 zk_0.1 rfl).trans ?_
    refine (Q_getI zm_91 (Or.inl (by decide)) D91_67 zf_9_224 (Or.inl zs_8_0) zk_72.1).trans ?_
    exact Q_ireturn zm_91 (Or.inl (by decide)) D91_70 rfl
  · refine (Q_aload_n zm_91 (Or.inl (by decide)) D91_56 rfl).trans ?_
    refine (Q_getR (q := 113) zm_91 (Or.inl (by decide)) D91_57 zf_9_58 zs_9_9 zk_0.1 rfl).trans ?_
    exact Q_callv (as := []) (b := 113) (rest := []) zm_91 (Or.inl (by decide)) D91_60 zc_9_105 rfl zk_113.1 (by decide) (by decide +kernel) (by decide) (by simp [zcat, Value.category]) zm_11 rfl

theorem b91_63 {d : Nat} {i1 : Int32} {ia : Nat → Nat → Int32} {la : Nat → Nat → Int64} {pl dr : Nat} {cp : Option Nat} {cw : Option Nat} {rp : Option Nat} {K : Option Value → zHP → Prop}  : zWP d 91 63 [some (.ref 0), some (.int i1)] [] (ia, la, zRA pl dr cp cw rp) K = K (some (.int (ia 72 0))) (ia, la, zRA pl dr cp cw rp) := by
  refine (Q_aload_n zm_91 (Or.inl (by decide)) D91_63 rfl).trans ?_
  refine (Q_getR (q := 72) zm_91 (Or.inl (by decide)) D91_64 zf_9_31 zs_9_3 zk_0.1 rfl).trans ?_
  refine (Q_getI zm_91 (Or.inl (by decide)) D91_67 zf_9_224 (Or.inl zs_8_0) zk_72.1).trans ?_
  exact Q_ireturn zm_91 (Or.inl (by decide)) D91_70 rfl

/-! HandsLet.tryFromNow(I)V -/
theorem D92_0 : decode prog_1_method_19_code 0 = .ok (.aload_n 0, 1) := by decide +kernel
theorem D92_1 : decode prog_1_method_19_code 1 = .ok (.getfield 38, 3) := by decide +kernel
theorem D92_4 : decode prog_1_method_19_code 4 = .ok (.aload_n 0, 1) := by decide +kernel
theorem D92_5 : decode prog_1_method_19_code 5 = .ok (.getfield 31, 3) := by decide +kernel
theorem D92_8 : decode prog_1_method_19_code 8 = .ok (.invokevirtual 230, 3) := by decide +kernel
theorem D92_11 : decode prog_1_method_19_code 11 = .ok (.aload_n 0, 1) := by decide +kernel
theorem D92_12 : decode prog_1_method_19_code 12 = .ok (.getfield 44, 3) := by decide +kernel
theorem D92_15 : decode prog_1_method_19_code 15 = .ok (.aload_n 0, 1) := by decide +kernel
theorem D92_16 : decode prog_1_method_19_code 16 = .ok (.getfield 21, 3) := by decide +kernel
theorem D92_19 : decode prog_1_method_19_code 19 = .ok (.aload_n 0, 1) := by decide +kernel
theorem D92_20 : decode prog_1_method_19_code 20 = .ok (.getfield 38, 3) := by decide +kernel
theorem D92_23 : decode prog_1_method_19_code 23 = .ok (.iload_n 1, 1) := by decide +kernel
theorem D92_24 : decode prog_1_method_19_code 24 = .ok (.invokevirtual 195, 3) := by decide +kernel
theorem D92_27 : decode prog_1_method_19_code 27 = .ok (.return_, 1) := by decide +kernel

theorem b92_0 {d : Nat} {i1 : Int32} {ia : Nat → Nat → Int32} {la : Nat → Nat → Int64} {pl dr : Nat} {cp : Option Nat} {cw : Option Nat} {rp : Option Nat} {K : Option Value → zHP → Prop}  : zWP (d + 1) 92 0 [some (.ref 0), some (.int i1)] [] (ia, la, zRA pl dr cp cw rp) K = zWM d 68 [.ref 92, .ref 72] (ia, la, zRA pl dr cp cw rp) (zK (d + 1) 92 11 [some (.ref 0), some (.int i1)] [] K) := by
  refine (Q_aload_n zm_92 (Or.inl (by decide)) D92_0 rfl).trans ?_
  refine (Q_getR (q := 92) zm_92 (Or.inl (by decide)) D92_1 zf_9_38 zs_9_5 zk_0.1 rfl).trans ?_
  refine (Q_aload_n zm_92 (Or.inl (by decide)) D92_4 rfl).trans ?_
  refine (Q_getR (q := 72) zm_92 (Or.inl (by decide)) D92_5 zf_9_31 zs_9_3 zk_0.1 rfl).trans ?_
  exact Q_callv (as := [.ref 72]) (b := 92) (rest := []) zm_92 (Or.inl (by decide)) D92_8 zc_9_230 rfl zk_92.1 (by decide) (by decide +kernel) (by decide) (by simp [zcat, Value.category]) zm_68 rfl

theorem b92_11 {d : Nat} {i1 : Int32} {ia : Nat → Nat → Int32} {la : Nat → Nat → Int64} {pl dr : Nat} {cp : Option Nat} {cw : Option Nat} {rp : Option Nat} {K : Option Value → zHP → Prop}  : zWP (d + 1) 92 11 [some (.ref 0), some (.int i1)] [] (ia, la, zRA pl dr cp cw rp) K = zWM d 0 [.ref 102, .ref pl, .ref 92, .int i1] (ia, la, zRA pl dr cp cw rp) (zK (d + 1) 92 27 [some (.ref 0), some (.int i1)] [] K) := by
  refine (Q_aload_n zm_92 (Or.inl (by decide)) D92_11 rfl).trans ?_
  refine (Q_getR (q := 102) zm_92 (Or.inl (by decide)) D92_12 zf_9_44 zs_9_7 zk_0.1 rfl).trans ?_
  refine (Q_aload_n zm_92 (Or.inl (by decide)) D92_15 rfl).trans ?_
  refine (Q_getR (q := pl) zm_92 (Or.inl (by decide)) D92_16 zf_9_21 zs_9_1 zk_0.1 rfl).trans ?_
  refine (Q_aload_n zm_92 (Or.inl (by decide)) D92_19 rfl).trans ?_
  refine (Q_getR (q := 92) zm_92 (Or.inl (by decide)) D92_20 zf_9_38 zs_9_5 zk_0.1 rfl).trans ?_
  refine (Q_iload_n zm_92 (Or.inl (by decide)) D92_23 rfl).trans ?_
  exact Q_callv (as := [.ref pl, .ref 92, .int i1]) (b := 102) (rest := []) zm_92 (Or.inl (by decide)) D92_24 zc_9_195 rfl zk_102.1 (by decide) (by decide +kernel) (by decide) (by simp [zcat, Value.category]) zm_0 rfl

theorem b92_27 {d : Nat} {i1 : Int32} {ia : Nat → Nat → Int32} {la : Nat → Nat → Int64} {pl dr : Nat} {cp : Option Nat} {cw : Option Nat} {rp : Option Nat} {K : Option Value → zHP → Prop}  : zWP d 92 27 [some (.ref 0), some (.int i1)] [] (ia, la, zRA pl dr cp cw rp) K = K none (ia, la, zRA pl dr cp cw rp) := by
  exact Q_return zm_92 (Or.inl (by decide)) D92_27 rfl

/-! HandsLet.ahead(III)I -/
theorem D93_0 : decode prog_1_method_20_code 0 = .ok (.iload_n 1, 1) := by decide +kernel
theorem D93_1 : decode prog_1_method_20_code 1 = .ok (.ifCond .lt 19, 3) := by decide +kernel
theorem D93_4 : decode prog_1_method_20_code 4 = .ok (.iload_n 1, 1) := by decide +kernel
theorem D93_5 : decode prog_1_method_20_code 5 = .ok (.sipush 200, 3) := by decide +kernel
theorem D93_8 : decode prog_1_method_20_code 8 = .ok (.if_icmp .gt 12, 3) := by decide +kernel
theorem D93_11 : decode prog_1_method_20_code 11 = .ok (.iload_n 2, 1) := by decide +kernel
theorem D93_12 : decode prog_1_method_20_code 12 = .ok (.ifCond .lt 8, 3) := by decide +kernel
theorem D93_15 : decode prog_1_method_20_code 15 = .ok (.iload_n 2, 1) := by decide +kernel
theorem D93_16 : decode prog_1_method_20_code 16 = .ok (.iconst 4, 1) := by decide +kernel
theorem D93_17 : decode prog_1_method_20_code 17 = .ok (.if_icmp .le 5, 3) := by decide +kernel
theorem D93_20 : decode prog_1_method_20_code 20 = .ok (.iconst (-1), 1) := by decide +kernel
theorem D93_21 : decode prog_1_method_20_code 21 = .ok (.ireturn, 1) := by decide +kernel
theorem D93_22 : decode prog_1_method_20_code 22 = .ok (.iload_n 2, 1) := by decide +kernel
theorem D93_23 : decode prog_1_method_20_code 23 = .ok (.ifCond .eq 8, 3) := by decide +kernel
theorem D93_26 : decode prog_1_method_20_code 26 = .ok (.iload_n 2, 1) := by decide +kernel
theorem D93_27 : decode prog_1_method_20_code 27 = .ok (.iconst 3, 1) := by decide +kernel
theorem D93_28 : decode prog_1_method_20_code 28 = .ok (.if_icmp .ne 13, 3) := by decide +kernel
theorem D93_31 : decode prog_1_method_20_code 31 = .ok (.aload_n 0, 1) := by decide +kernel
theorem D93_32 : decode prog_1_method_20_code 32 = .ok (.iload_n 3, 1) := by decide +kernel
theorem D93_33 : decode prog_1_method_20_code 33 = .ok (.invokevirtual 122, 3) := by decide +kernel
theorem D93_36 : decode prog_1_method_20_code 36 = .ok (.ifCond .ne 5, 3) := by decide +kernel
theorem D93_39 : decode prog_1_method_20_code 39 = .ok (.iconst (-1), 1) := by decide +kernel
theorem D93_40 : decode prog_1_method_20_code 40 = .ok (.ireturn, 1) := by decide +kernel
theorem D93_41 : decode prog_1_method_20_code 41 = .ok (.aload_n 0, 1) := by decide +kernel
theorem D93_42 : decode prog_1_method_20_code 42 = .ok (.iconst 1, 1) := by decide +kernel
theorem D93_43 : decode prog_1_method_20_code 43 = .ok (.invokevirtual 234, 3) := by decide +kernel
theorem D93_46 : decode prog_1_method_20_code 46 = .ok (.aload_n 0, 1) := by decide +kernel
theorem D93_47 : decode prog_1_method_20_code 47 = .ok (.getfield 44, 3) := by decide +kernel
theorem D93_50 : decode prog_1_method_20_code 50 = .ok (.iload_n 1, 1) := by decide +kernel
theorem D93_51 : decode prog_1_method_20_code 51 = .ok (.invokevirtual 227, 3) := by decide +kernel
theorem D93_54 : decode prog_1_method_20_code 54 = .ok (.iload_n 2, 1) := by decide +kernel
theorem D93_55 : decode prog_1_method_20_code 55 = .ok (.tableswitch 83 0 3 #[29, 39, 55, 71], 29) := by decide +kernel
theorem D93_84 : decode prog_1_method_20_code 84 = .ok (.aload_n 0, 1) := by decide +kernel
theorem D93_85 : decode prog_1_method_20_code 85 = .ok (.getfield 38, 3) := by decide +kernel
theorem D93_88 : decode prog_1_method_20_code 88 = .ok (.getfield 148, 3) := by decide +kernel
theorem D93_91 : decode prog_1_method_20_code 91 = .ok (.iload_n 3, 1) := by decide +kernel
theorem D93_92 : decode prog_1_method_20_code 92 = .ok (.iaload, 1) := by decide +kernel
theorem D93_93 : decode prog_1_method_20_code 93 = .ok (.ireturn, 1) := by decide +kernel
theorem D93_94 : decode prog_1_method_20_code 94 = .ok (.aload_n 0, 1) := by decide +kernel
theorem D93_95 : decode prog_1_method_20_code 95 = .ok (.getfield 38, 3) := by decide +kernel
theorem D93_98 : decode prog_1_method_20_code 98 = .ok (.getfield 237, 3) := by decide +kernel
theorem D93_101 : decode prog_1_method_20_code 101 = .ok (.aload_n 0, 1) := by decide +kernel
theorem D93_102 : decode prog_1_method_20_code 102 = .ok (.getfield 31, 3) := by decide +kernel
theorem D93_105 : decode prog_1_method_20_code 105 = .ok (.getfield 237, 3) := by decide +kernel
theorem D93_108 : decode prog_1_method_20_code 108 = .ok (.isub, 1) := by decide +kernel
theorem D93_109 : decode prog_1_method_20_code 109 = .ok (.ireturn, 1) := by decide +kernel
theorem D93_110 : decode prog_1_method_20_code 110 = .ok (.aload_n 0, 1) := by decide +kernel
theorem D93_111 : decode prog_1_method_20_code 111 = .ok (.getfield 38, 3) := by decide +kernel
theorem D93_114 : decode prog_1_method_20_code 114 = .ok (.getfield 240, 3) := by decide +kernel
theorem D93_117 : decode prog_1_method_20_code 117 = .ok (.aload_n 0, 1) := by decide +kernel
theorem D93_118 : decode prog_1_method_20_code 118 = .ok (.getfield 31, 3) := by decide +kernel
theorem D93_121 : decode prog_1_method_20_code 121 = .ok (.getfield 240, 3) := by decide +kernel
theorem D93_124 : decode prog_1_method_20_code 124 = .ok (.isub, 1) := by decide +kernel
theorem D93_125 : decode prog_1_method_20_code 125 = .ok (.ireturn, 1) := by decide +kernel
theorem D93_126 : decode prog_1_method_20_code 126 = .ok (.aload_n 0, 1) := by decide +kernel
theorem D93_127 : decode prog_1_method_20_code 127 = .ok (.getfield 38, 3) := by decide +kernel
theorem D93_130 : decode prog_1_method_20_code 130 = .ok (.getfield 129, 3) := by decide +kernel
theorem D93_133 : decode prog_1_method_20_code 133 = .ok (.iload_n 3, 1) := by decide +kernel
theorem D93_134 : decode prog_1_method_20_code 134 = .ok (.iconst 3, 1) := by decide +kernel
theorem D93_135 : decode prog_1_method_20_code 135 = .ok (.imul, 1) := by decide +kernel
theorem D93_136 : decode prog_1_method_20_code 136 = .ok (.iaload, 1) := by decide +kernel
theorem D93_137 : decode prog_1_method_20_code 137 = .ok (.ireturn, 1) := by decide +kernel
theorem D93_138 : decode prog_1_method_20_code 138 = .ok (.aload_n 0, 1) := by decide +kernel
theorem D93_139 : decode prog_1_method_20_code 139 = .ok (.getfield 38, 3) := by decide +kernel
theorem D93_142 : decode prog_1_method_20_code 142 = .ok (.getfield 243, 3) := by decide +kernel
theorem D93_145 : decode prog_1_method_20_code 145 = .ok (.aload_n 0, 1) := by decide +kernel
theorem D93_146 : decode prog_1_method_20_code 146 = .ok (.getfield 31, 3) := by decide +kernel
theorem D93_149 : decode prog_1_method_20_code 149 = .ok (.getfield 243, 3) := by decide +kernel
theorem D93_152 : decode prog_1_method_20_code 152 = .ok (.isub, 1) := by decide +kernel
theorem D93_153 : decode prog_1_method_20_code 153 = .ok (.ireturn, 1) := by decide +kernel

theorem b93_0 {d : Nat} {i1 : Int32} {i2 : Int32} {i3 : Int32} {ia : Nat → Nat → Int32} {la : Nat → Nat → Int64} {pl dr : Nat} {cp : Option Nat} {cw : Option Nat} {rp : Option Nat} {K : Option Value → zHP → Prop}  : zWP (d + 1) 93 0 [some (.ref 0), some (.int i1), some (.int i2), some (.int i3)] [] (ia, la, zRA pl dr cp cw rp) K = (if i1 < 0 then K (some (.int (-1 : Int32))) (ia, la, zRA pl dr cp cw rp) else (if (200 : Int32) < i1 then K (some (.int (-1 : Int32))) (ia, la, zRA pl dr cp cw rp) else (if i2 < 0 then K (some (.int (-1 : Int32))) (ia, la, zRA pl dr cp cw rp) else (if i2 ≤ (4 : Int32) then (if i2 = 0 then zWM d 80 [.ref 0, .int i3] (ia, la, zRA pl dr cp cw rp) (zK (d + 1) 93 36 [some (.ref 0), some (.int i1), some (.int i2), some (.int i3)] [] K) else (if ¬ i2 = (3 : Int32) then zWM d 92 [.ref 0, .int (1 : Int32)] (ia, la, zRA pl dr cp cw rp) (zK (d + 1) 93 46 [some (.ref 0), some (.int i1), some (.int i2), some (.int i3)] [] K) else zWM d 80 [.ref 0, .int i3] (ia, la, zRA pl dr cp cw rp) (zK (d + 1) 93 36 [some (.ref 0), some (.int i1), some (.int i2), some (.int i3)] [] K))) else K (some (.int (-1 : Int32))) (ia, la, zRA pl dr cp cw rp))))) := by
  refine (Q_iload_n zm_93 (Or.inl (by decide)) D93_0 rfl).trans ?_
  refine (Q_if_lt (tgt := 20) zm_93 (Or.inl (by decide)) D93_1 (by decide)).trans ?_
  refine zif_c (fun h0_ => ?_) (fun h0_ => ?_)
  · refine (Q_iconst (v := -1) zm_93 (Or.inl (by decide)) D93_20 (by decide)).trans ?_
    exact Q_ireturn zm_93 (Or.inl (by decide)) D93_21 rfl
  · refine (Q_iload_n zm_93 (Or.inl (by decide)) D93_4 rfl).trans ?_
    refine (Q_sipush (v := 200) zm_93 (Or.inl (by decide)) D93_5 (by decide)).trans ?_
    refine (Q_ic_gt (tgt := 20) zm_93 (Or.inl (by decide)) D93_8 (by decide)).trans ?_
    refine zif_c (fun h1_ => ?_) (fun h1_ => ?_)
    · refine (Q_iconst (v := -1) zm_93 (Or.inl (by decide)) D93_20 (by decide)).trans ?_
      exact Q_ireturn zm_93 (Or.inl (by decide)) D93_21 rfl
    · refine (Q_iload_n zm_93 (Or.inl (by decide)) D93_11 rfl).trans ?_
      refine (Q_if_lt (tgt := 20) zm_93 (Or.inl (by decide)) D93_12 (by decide)).trans ?_
      refine zif_c (fun h2_ => ?_) (fun h2_ => ?_)
      · refine (Q_iconst (v := -1) zm_93 (Or.inl (by decide)) D93_20 (by decide)).trans ?_
        exact Q_ireturn zm_93 (Or.inl (by decide)) D93_21 rfl
      · refine (Q_iload_n zm_93 (Or.inl (by decide)) D93_15 rfl).trans ?_
        refine (Q_iconst (v := 4) zm_93 (Or.inl (by decide)) D93_16 (by decide)).trans ?_
        refine (Q_ic_le (tgt := 22) zm_93 (Or.inl (by decide)) D93_17 (by decide)).trans ?_
        refine zif_c (fun h3_ => ?_) (fun h3_ => ?_)
        · refine (Q_iload_n zm_93 (Or.inl (by decide)) D93_22 rfl).trans ?_
          refine (Q_if_eq (tgt := 31) zm_93 (Or.inl (by decide)) D93_23 (by decide)).trans ?_
          refine zif_c (fun h4_ => ?_) (fun h4_ => ?_)
          · refine (Q_aload_n zm_93 (Or.inl (by decide)) D93_31 rfl).trans ?_
            refine (Q_iload_n zm_93 (Or.inl (by decide)) D93_32 rfl).trans ?_
            exact Q_callv (as := [.int i3]) (b := 0) (rest := []) zm_93 (Or.inl (by decide)) D93_33 zc_9_122 rfl zk_0.1 (by decide) (by decide +kernel) (by decide) (by simp [zcat, Value.category]) zm_80 rfl
          · refine (Q_iload_n zm_93 (Or.inl (by decide)) D93_26 rfl).trans ?_
            refine (Q_iconst (v := 3) zm_93 (Or.inl (by decide)) D93_27 (by decide)).trans ?_
            refine (Q_ic_ne (tgt := 41) zm_93 (Or.inl (by decide)) D93_28 (by decide)).trans ?_
            refine zif_c (fun h5_ => ?_) (fun h5_ => ?_)
            · refine (Q_aload_n zm_93 (Or.inl (by decide)) D93_41 rfl).trans ?_
              refine (Q_iconst (v := 1) zm_93 (Or.inl (by decide)) D93_42 (by decide)).trans ?_
              exact Q_callv (as := [.int (1 : Int32)]) (b := 0) (rest := []) zm_93 (Or.inl (by decide)) D93_43 zc_9_234 rfl zk_0.1 (by decide) (by decide +kernel) (by decide) (by simp [zcat, Value.category]) zm_92 rfl
            · refine (Q_aload_n zm_93 (Or.inl (by decide)) D93_31 rfl).trans ?_
              refine (Q_iload_n zm_93 (Or.inl (by decide)) D93_32 rfl).trans ?_
              exact Q_callv (as := [.int i3]) (b := 0) (rest := []) zm_93 (Or.inl (by decide)) D93_33 zc_9_122 rfl zk_0.1 (by decide) (by decide +kernel) (by decide) (by simp [zcat, Value.category]) zm_80 rfl
        · refine (Q_iconst (v := -1) zm_93 (Or.inl (by decide)) D93_20 (by decide)).trans ?_
          exact Q_ireturn zm_93 (Or.inl (by decide)) D93_21 rfl

theorem b93_36 {d : Nat} {i1 : Int32} {i2 : Int32} {i3 : Int32} {s0 : Int32} {ia : Nat → Nat → Int32} {la : Nat → Nat → Int64} {pl dr : Nat} {cp : Option Nat} {cw : Option Nat} {rp : Option Nat} {K : Option Value → zHP → Prop}  : zWP (d + 1) 93 36 [some (.ref 0), some (.int i1), some (.int i2), some (.int i3)] [.int s0] (ia, la, zRA pl dr cp cw rp) K = (if ¬ s0 = 0 then zWM d 92 [.ref 0, .int (1 : Int32)] (ia, la, zRA pl dr cp cw rp) (zK (d + 1) 93 46 [some (.ref 0), some (.int i1), some (.int i2), some (.int i3)] [] K) else K (some (.int (-1 : Int32))) (ia, la, zRA pl dr cp cw rp)) := by
  refine (Q_if_ne (tgt := 41) zm_93 (Or.inl (by decide)) D93_36 (by decide)).trans ?_
  refine zif_c (fun h0_ => ?_) (fun h0_ => ?_)
  · refine (Q_aload_n zm_93 (Or.inl (by decide)) D93_41 rfl).trans ?_
    refine (Q_iconst (v := 1) zm_93 (Or.inl (by decide)) D93_42 (by decide)).trans ?_
    exact Q_callv (as := [.int (1 : Int32)]) (b := 0) (rest := []) zm_93 (Or.inl (by decide)) D93_43 zc_9_234 rfl zk_0.1 (by decide) (by decide +kernel) (by decide) (by simp [zcat, Value.category]) zm_92 rfl
  · refine (Q_iconst (v := -1) zm_93 (Or.inl (by decide)) D93_39 (by decide)).trans ?_
    exact Q_ireturn zm_93 (Or.inl (by decide)) D93_40 rfl

theorem b93_46 {d : Nat} {i1 : Int32} {i2 : Int32} {i3 : Int32} {ia : Nat → Nat → Int32} {la : Nat → Nat → Int64} {pl dr : Nat} {cp : Option Nat} {cw : Option Nat} {rp : Option Nat} {K : Option Value → zHP → Prop}  : zWP (d + 1) 93 46 [some (.ref 0), some (.int i1), some (.int i2), some (.int i3)] [] (ia, la, zRA pl dr cp cw rp) K = zWM d 1 [.ref 102, .int i1] (ia, la, zRA pl dr cp cw rp) (zK (d + 1) 93 54 [some (.ref 0), some (.int i1), some (.int i2), some (.int i3)] [] K) := by
  refine (Q_aload_n zm_93 (Or.inl (by decide)) D93_46 rfl).trans ?_
  refine (Q_getR (q := 102) zm_93 (Or.inl (by decide)) D93_47 zf_9_44 zs_9_7 zk_0.1 rfl).trans ?_
  refine (Q_iload_n zm_93 (Or.inl (by decide)) D93_50 rfl).trans ?_
  exact Q_callv (as := [.int i1]) (b := 102) (rest := []) zm_93 (Or.inl (by decide)) D93_51 zc_9_227 rfl zk_102.1 (by decide) (by decide +kernel) (by decide) (by simp [zcat, Value.category]) zm_1 rfl

theorem b93_54 {d : Nat} {i1 : Int32} {i2 : Int32} {i3 : Int32} {ia : Nat → Nat → Int32} {la : Nat → Nat → Int64} {pl dr : Nat} {cp : Option Nat} {cw : Option Nat} {rp : Option Nat} {K : Option Value → zHP → Prop}  : zWP d 93 54 [some (.ref 0), some (.int i1), some (.int i2), some (.int i3)] [] (ia, la, zRA pl dr cp cw rp) K = (if i2 = 0 then (vp_in i3 6 ∧ K (some (.int (ia 93 (i3).toNatClampNeg))) (ia, la, zRA pl dr cp cw rp)) else (if i2 = 1 then K (some (.int ((ia 92 11) - (ia 72 11)))) (ia, la, zRA pl dr cp cw rp) else (if i2 = 2 then K (some (.int ((ia 92 12) - (ia 72 12)))) (ia, la, zRA pl dr cp cw rp) else (if i2 = 3 then (vp_in (i3 * (3 : Int32)) 18 ∧ K (some (.int (ia 94 ((i3 * (3 : Int32))).toNatClampNeg))) (ia, la, zRA pl dr cp cw rp)) else K (some (.int ((ia 92 13) - (ia 72 13)))) (ia, la, zRA pl dr cp cw rp))))) := by
  refine (Q_iload_n zm_93 (Or.inl (by decide)) D93_54 rfl).trans ?_
  by_cases h0_ : i2 = 0
  · rw [if_pos h0_]
    refine (congrArg (fun q => zWP d 93 55 [some (.ref 0), some (.int i1), some (.int i2), some (.int i3)] (.int q :: []) (ia, la, zRA pl dr cp cw rp) K) h0_).trans ?_
    refine (Q_tsw (tgt := 84) zm_93 (Or.inl (by decide)) D93_55 rfl (by decide)).trans ?_
    refine (Q_aload_n zm_93 (Or.inl (by decide)) D93_84 rfl).trans ?_
    refine (Q_getR (q := 92) zm_93 (Or.inl (by decide)) D93_85 zf_9_38 zs_9_5 zk_0.1 rfl).trans ?_
    refine (Q_getR (q := 93) zm_93 (Or.inl (by decide)) D93_88 zf_9_148 zs_8_2 zk_92.1 rfl).trans ?_
    refine (Q_iload_n zm_93 (Or.inl (by decide)) D93_91 rfl).trans ?_
    refine (Q_iaload zm_93 (Or.inl (by decide)) D93_92 zk_93.1 zk_93.2).trans ?_
    refine zand_c (fun h1_ => ?_)
    exact Q_ireturn zm_93 (Or.inl (by decide)) D93_93 rfl
  rw [if_neg h0_]
  by_cases h2_ : i2 = 1
  · rw [if_pos h2_]
    refine (congrArg (fun q => zWP d 93 55 [some (.ref 0), some (.int i1), some (.int i2), some (.int i3)] (.int q :: []) (ia, la, zRA pl dr cp cw rp) K) h2_).trans ?_
    refine (Q_tsw (tgt := 94) zm_93 (Or.inl (by decide)) D93_55 rfl (by decide)).trans ?_
    refine (Q_aload_n zm_93 (Or.inl (by decide)) D93_94 rfl).trans ?_
    refine (Q_getR (q := 92) zm_93 (Or.inl (by decide)) D93_95 zf_9_38 zs_9_5 zk_0.1 rfl).trans ?_
    refine (Q_getI zm_93 (Or.inl (by decide)) D93_98 zf_9_237 (Or.inl zs_8_11) zk_92.1).trans ?_
    refine (Q_aload_n zm_93 (Or.inl (by decide)) D93_101 rfl).trans ?_
    refine (Q_getR (q := 72) zm_93 (Or.inl (by decide)) D93_102 zf_9_31 zs_9_3 zk_0.1 rfl).trans ?_
    refine (Q_getI zm_93 (Or.inl (by decide)) D93_105 zf_9_237 (Or.inl zs_8_11) zk_72.1).trans ?_
    refine (Q_isub zm_93 (Or.inl (by decide)) D93_108).trans ?_
    exact Q_ireturn zm_93 (Or.inl (by decide)) D93_109 rfl
  rw [if_neg h2_]
  by_cases h3_ : i2 = 2
  · rw [if_pos h3_]
    refine (congrArg (fun q => zWP d 93 55 [some (.ref 0), some (.int i1), some (.int i2), some (.int i3)] (.int q :: []) (ia, la, zRA pl dr cp cw rp) K) h3_).trans ?_
    refine (Q_tsw (tgt := 110) zm_93 (Or.inl (by decide)) D93_55 rfl (by decide)).trans ?_
    refine (Q_aload_n zm_93 (Or.inl (by decide)) D93_110 rfl).trans ?_
    refine (Q_getR (q := 92) zm_93 (Or.inl (by decide)) D93_111 zf_9_38 zs_9_5 zk_0.1 rfl).trans ?_
    refine (Q_getI zm_93 (Or.inl (by decide)) D93_114 zf_9_240 (Or.inl zs_8_12) zk_92.1).trans ?_
    refine (Q_aload_n zm_93 (Or.inl (by decide)) D93_117 rfl).trans ?_
    refine (Q_getR (q := 72) zm_93 (Or.inl (by decide)) D93_118 zf_9_31 zs_9_3 zk_0.1 rfl).trans ?_
    refine (Q_getI zm_93 (Or.inl (by decide)) D93_121 zf_9_240 (Or.inl zs_8_12) zk_72.1).trans ?_
    refine (Q_isub zm_93 (Or.inl (by decide)) D93_124).trans ?_
    exact Q_ireturn zm_93 (Or.inl (by decide)) D93_125 rfl
  rw [if_neg h3_]
  by_cases h4_ : i2 = 3
  · rw [if_pos h4_]
    refine (congrArg (fun q => zWP d 93 55 [some (.ref 0), some (.int i1), some (.int i2), some (.int i3)] (.int q :: []) (ia, la, zRA pl dr cp cw rp) K) h4_).trans ?_
    refine (Q_tsw (tgt := 126) zm_93 (Or.inl (by decide)) D93_55 rfl (by decide)).trans ?_
    refine (Q_aload_n zm_93 (Or.inl (by decide)) D93_126 rfl).trans ?_
    refine (Q_getR (q := 92) zm_93 (Or.inl (by decide)) D93_127 zf_9_38 zs_9_5 zk_0.1 rfl).trans ?_
    refine (Q_getR (q := 94) zm_93 (Or.inl (by decide)) D93_130 zf_9_129 zs_8_3 zk_92.1 rfl).trans ?_
    refine (Q_iload_n zm_93 (Or.inl (by decide)) D93_133 rfl).trans ?_
    refine (Q_iconst (v := 3) zm_93 (Or.inl (by decide)) D93_134 (by decide)).trans ?_
    refine (Q_imul zm_93 (Or.inl (by decide)) D93_135).trans ?_
    refine (Q_iaload zm_93 (Or.inl (by decide)) D93_136 zk_94.1 zk_94.2).trans ?_
    refine zand_c (fun h5_ => ?_)
    exact Q_ireturn zm_93 (Or.inl (by decide)) D93_137 rfl
  rw [if_neg h4_]
  refine (Q_tsw (tgt := 138) zm_93 (Or.inl (by decide)) D93_55 (zsw_out (n := 4) (by decide) (fun q hq => ?_)) (by decide)).trans ?_
  · rcases (show q = 0 ∨ q = 1 ∨ q = 2 ∨ q = 3 by omega) with rfl | rfl | rfl | rfl
    · exact h0_
    · exact h2_
    · exact h3_
    · exact h4_
  refine (Q_aload_n zm_93 (Or.inl (by decide)) D93_138 rfl).trans ?_
  refine (Q_getR (q := 92) zm_93 (Or.inl (by decide)) D93_139 zf_9_38 zs_9_5 zk_0.1 rfl).trans ?_
  refine (Q_getI zm_93 (Or.inl (by decide)) D93_142 zf_9_243 (Or.inl zs_8_13) zk_92.1).trans ?_
  refine (Q_aload_n zm_93 (Or.inl (by decide)) D93_145 rfl).trans ?_
  refine (Q_getR (q := 72) zm_93 (Or.inl (by decide)) D93_146 zf_9_31 zs_9_3 zk_0.1 rfl).trans ?_
  refine (Q_getI zm_93 (Or.inl (by decide)) D93_149 zf_9_243 (Or.inl zs_8_13) zk_72.1).trans ?_
  refine (Q_isub zm_93 (Or.inl (by decide)) D93_152).trans ?_
  exact Q_ireturn zm_93 (Or.inl (by decide)) D93_153 rfl

/-! HandsLet.free(I)I -/
theorem D94_0 : decode prog_1_method_21_code 0 = .ok (.aload_n 0, 1) := by decide +kernel
theorem D94_1 : decode prog_1_method_21_code 1 = .ok (.iload_n 1, 1) := by decide +kernel
theorem D94_2 : decode prog_1_method_21_code 2 = .ok (.invokevirtual 122, 3) := by decide +kernel
theorem D94_5 : decode prog_1_method_21_code 5 = .ok (.ifCond .eq 15, 3) := by decide +kernel
theorem D94_8 : decode prog_1_method_21_code 8 = .ok (.aload_n 0, 1) := by decide +kernel
theorem D94_9 : decode prog_1_method_21_code 9 = .ok (.getfield 31, 3) := by decide +kernel
theorem D94_12 : decode prog_1_method_21_code 12 = .ok (.getfield 135, 3) := by decide +kernel
theorem D94_15 : decode prog_1_method_21_code 15 = .ok (.iload_n 1, 1) := by decide +kernel
theorem D94_16 : decode prog_1_method_21_code 16 = .ok (.iaload, 1) := by decide +kernel
theorem D94_17 : decode prog_1_method_21_code 17 = .ok (.goto 4, 3) := by decide +kernel
theorem D94_20 : decode prog_1_method_21_code 20 = .ok (.iconst (-1), 1) := by decide +kernel
theorem D94_21 : decode prog_1_method_21_code 21 = .ok (.ireturn, 1) := by decide +kernel

theorem b94_0 {d : Nat} {i1 : Int32} {ia : Nat → Nat → Int32} {la : Nat → Nat → Int64} {pl dr : Nat} {cp : Option Nat} {cw : Option Nat} {rp : Option Nat} {K : Option Value → zHP → Prop}  : zWP (d + 1) 94 0 [some (.ref 0), some (.int i1)] [] (ia, la, zRA pl dr cp cw rp) K = zWM d 80 [.ref 0, .int i1] (ia, la, zRA pl dr cp cw rp) (zK (d + 1) 94 5 [some (.ref 0), some (.int i1)] [] K) := by
  refine (Q_aload_n zm_94 (Or.inl (by decide)) D94_0 rfl).trans ?_
  refine (Q_iload_n zm_94 (Or.inl (by decide)) D94_1 rfl).trans ?_
  exact Q_callv (as := [.int i1]) (b := 0) (rest := []) zm_94 (Or.inl (by decide)) D94_2 zc_9_122 rfl zk_0.1 (by decide) (by decide +kernel) (by decide) (by simp [zcat, Value.category]) zm_80 rfl

theorem b94_5 {d : Nat} {i1 : Int32} {s0 : Int32} {ia : Nat → Nat → Int32} {la : Nat → Nat → Int64} {pl dr : Nat} {cp : Option Nat} {cw : Option Nat} {rp : Option Nat} {K : Option Value → zHP → Prop}  : zWP d 94 5 [some (.ref 0), some (.int i1)] [.int s0] (ia, la, zRA pl dr cp cw rp) K = (if s0 = 0 then K (some (.int (-1 : Int32))) (ia, la, zRA pl dr cp cw rp) else (vp_in i1 6 ∧ K (some (.int (ia 76 (i1).toNatClampNeg))) (ia, la, zRA pl dr cp cw rp))) := by
  refine (Q_if_eq (tgt := 20) zm_94 (Or.inl (by decide)) D94_5 (by decide)).trans ?_
  refine zif_c (fun h0_ => ?_) (fun h0_ => ?_)
  · refine (Q_iconst (v := -1) zm_94 (Or.inl (by decide)) D94_20 (by decide)).trans ?_
    exact Q_ireturn zm_94 (Or.inl (by decide)) D94_21 rfl
  · refine (Q_aload_n zm_94 (Or.inl (by decide)) D94_8 rfl).trans ?_
    refine (Q_getR (q := 72) zm_94 (Or.inl (by decide)) D94_9 zf_9_31 zs_9_3 zk_0.1 rfl).trans ?_
    refine (Q_getR (q := 76) zm_94 (Or.inl (by decide)) D94_12 zf_9_135 zs_8_5 zk_72.1 rfl).trans ?_
    refine (Q_iload_n zm_94 (Or.inl (by decide)) D94_15 rfl).trans ?_
    refine (Q_iaload zm_94 (Or.inl (by decide)) D94_16 zk_76.1 zk_76.2).trans ?_
    refine zand_c (fun h1_ => ?_)
    refine (Q_goto (tgt := 21) zm_94 (Or.inl (by decide)) D94_17 (by decide)).trans ?_
    exact Q_ireturn zm_94 (Or.inl (by decide)) D94_21 rfl

/-! HandsLet.distance([III)I -/
theorem D95_0 : decode prog_1_method_22_code 0 = .ok (.iconst 0, 1) := by decide +kernel
theorem D95_1 : decode prog_1_method_22_code 1 = .ok (.istore 4, 2) := by decide +kernel
theorem D95_3 : decode prog_1_method_22_code 3 = .ok (.iconst 0, 1) := by decide +kernel
theorem D95_4 : decode prog_1_method_22_code 4 = .ok (.istore 5, 2) := by decide +kernel
theorem D95_6 : decode prog_1_method_22_code 6 = .ok (.iload 5, 2) := by decide +kernel
theorem D95_8 : decode prog_1_method_22_code 8 = .ok (.iconst 3, 1) := by decide +kernel
theorem D95_9 : decode prog_1_method_22_code 9 = .ok (.if_icmp .ge 44, 3) := by decide +kernel
theorem D95_12 : decode prog_1_method_22_code 12 = .ok (.iload 4, 2) := by decide +kernel
theorem D95_14 : decode prog_1_method_22_code 14 = .ok (.aload_n 1, 1) := by decide +kernel
theorem D95_15 : decode prog_1_method_22_code 15 = .ok (.iload_n 2, 1) := by decide +kernel
theorem D95_16 : decode prog_1_method_22_code 16 = .ok (.iconst 3, 1) := by decide +kernel
theorem D95_17 : decode prog_1_method_22_code 17 = .ok (.imul, 1) := by decide +kernel
theorem D95_18 : decode prog_1_method_22_code 18 = .ok (.iload 5, 2) := by decide +kernel
theorem D95_20 : decode prog_1_method_22_code 20 = .ok (.iadd, 1) := by decide +kernel
theorem D95_21 : decode prog_1_method_22_code 21 = .ok (.iaload, 1) := by decide +kernel
theorem D95_22 : decode prog_1_method_22_code 22 = .ok (.sipush 1000, 3) := by decide +kernel
theorem D95_25 : decode prog_1_method_22_code 25 = .ok (.aload_n 0, 1) := by decide +kernel
theorem D95_26 : decode prog_1_method_22_code 26 = .ok (.getfield 21, 3) := by decide +kernel
theorem D95_29 : decode prog_1_method_22_code 29 = .ok (.getfield 147, 3) := by decide +kernel
theorem D95_32 : decode prog_1_method_22_code 32 = .ok (.iload_n 3, 1) := by decide +kernel
theorem D95_33 : decode prog_1_method_22_code 33 = .ok (.iconst 3, 1) := by decide +kernel
theorem D95_34 : decode prog_1_method_22_code 34 = .ok (.imul, 1) := by decide +kernel
theorem D95_35 : decode prog_1_method_22_code 35 = .ok (.iload 5, 2) := by decide +kernel
theorem D95_37 : decode prog_1_method_22_code 37 = .ok (.iadd, 1) := by decide +kernel
theorem D95_38 : decode prog_1_method_22_code 38 = .ok (.iaload, 1) := by decide +kernel
theorem D95_39 : decode prog_1_method_22_code 39 = .ok (.imul, 1) := by decide +kernel
theorem D95_40 : decode prog_1_method_22_code 40 = .ok (.isub, 1) := by decide +kernel
theorem D95_41 : decode prog_1_method_22_code 41 = .ok (.invokestatic 246, 3) := by decide +kernel
theorem D95_44 : decode prog_1_method_22_code 44 = .ok (.iadd, 1) := by decide +kernel
theorem D95_45 : decode prog_1_method_22_code 45 = .ok (.istore 4, 2) := by decide +kernel
theorem D95_47 : decode prog_1_method_22_code 47 = .ok (.iinc 5 1, 3) := by decide +kernel
theorem D95_50 : decode prog_1_method_22_code 50 = .ok (.goto (-44), 3) := by decide +kernel
theorem D95_53 : decode prog_1_method_22_code 53 = .ok (.iload 4, 2) := by decide +kernel
theorem D95_55 : decode prog_1_method_22_code 55 = .ok (.ireturn, 1) := by decide +kernel

theorem b95_0 {d : Nat} {r1 : Nat} {i2 : Int32} {i3 : Int32} {ia : Nat → Nat → Int32} {la : Nat → Nat → Int64} {pl dr : Nat} {cp : Option Nat} {cw : Option Nat} {rp : Option Nat} {K : Option Value → zHP → Prop}  : zWP d 95 0 [some (.ref 0), some (.ref r1), some (.int i2), some (.int i3), none, none] [] (ia, la, zRA pl dr cp cw rp) K = zWP d 95 6 [some (.ref 0), some (.ref r1), some (.int i2), some (.int i3), some (.int (0 : Int32)), some (.int (0 : Int32))] [] (ia, la, zRA pl dr cp cw rp) K := by
  refine (Q_iconst (v := 0) zm_95 (Or.inl (by decide)) D95_0 (by decide)).trans ?_
  refine (Q_istore (ls' := [some (.ref 0), some (.ref r1), some (.int i2), some (.int i3), some (.int (0 : Int32)), none]) zm_95 (Or.inl (by decide)) D95_1 rfl (Nat.le_of_ble_eq_true rfl) rfl).trans ?_
  refine (Q_iconst (v := 0) zm_95 (Or.inl (by decide)) D95_3 (by decide)).trans ?_
  refine (Q_istore (ls' := [some (.ref 0), some (.ref r1), some (.int i2), some (.int i3), some (.int (0 : Int32)), some (.int (0 : Int32))]) zm_95 (Or.inl (by decide)) D95_4 rfl (Nat.le_of_ble_eq_true rfl) rfl).trans ?_
  rfl

theorem b95_6 {d : Nat} {r1 : Nat} {i2 : Int32} {i3 : Int32} {i4 : Int32} {i5 : Int32} {ia : Nat → Nat → Int32} {la : Nat → Nat → Int64} {pl dr : Nat} {cp : Option Nat} {cw : Option Nat} {rp : Option Nat} {K : Option Value → zHP → Prop} (hpl : zIsP pl) : zWP (d + 5) 95 6 [some (.ref 0), some (.ref r1), some (.int i2), some (.int i3), some (.int i4), some (.int i5)] [] (ia, la, zRA pl dr cp cw rp) K = (if (3 : Int32) ≤ i5 then K (some (.int i4)) (ia, la, zRA pl dr cp cw rp) else ((zkd r1 = 100 ∧ vp_in ((i2 * (3 : Int32)) + i5) (zln r1)) ∧ (vp_in ((i3 * (3 : Int32)) + i5) 18 ∧ zWP (d + 5) 95 6 [some (.ref 0), some (.ref r1), some (.int i2), some (.int i3), some (.int (i4 + (if 0 ≤ ((ia r1 (((i2 * (3 : Int32)) + i5)).toNatClampNeg) - ((1000 : Int32) * (ia (pl + 2) (((i3 * (3 : Int32)) + i5)).toNatClampNeg))) then ((ia r1 (((i2 * (3 : Int32)) + i5)).toNatClampNeg) - ((1000 : Int32) * (ia (pl + 2) (((i3 * (3 : Int32)) + i5)).toNatClampNeg))) else 0 - ((ia r1 (((i2 * (3 : Int32)) + i5)).toNatClampNeg) - ((1000 : Int32) * (ia (pl + 2) (((i3 * (3 : Int32)) + i5)).toNatClampNeg)))))), some (.int (i5 + (1 : Int32)))] [] (ia, la, zRA pl dr cp cw rp) K))) := by
  refine (Q_iload zm_95 (Or.inl (by decide)) D95_6 rfl).trans ?_
  refine (Q_iconst (v := 3) zm_95 (Or.inl (by decide)) D95_8 (by decide)).trans ?_
  refine (Q_ic_ge (tgt := 53) zm_95 (Or.inl (by decide)) D95_9 (by decide)).trans ?_
  refine zif_c (fun h0_ => ?_) (fun h0_ => ?_)
  · refine (Q_iload zm_95 (Or.inl (by decide)) D95_53 rfl).trans ?_
    exact Q_ireturn zm_95 (Or.inl (by decide)) D95_55 rfl
  · refine (Q_iload zm_95 (Or.inl (by decide)) D95_12 rfl).trans ?_
    refine (Q_aload_n zm_95 (Or.inl (by decide)) D95_14 rfl).trans ?_
    refine (Q_iload_n zm_95 (Or.inl (by decide)) D95_15 rfl).trans ?_
    refine (Q_iconst (v := 3) zm_95 (Or.inl (by decide)) D95_16 (by decide)).trans ?_
    refine (Q_imul zm_95 (Or.inl (by decide)) D95_17).trans ?_
    refine (Q_iload zm_95 (Or.inl (by decide)) D95_18 rfl).trans ?_
    refine (Q_iadd zm_95 (Or.inl (by decide)) D95_20).trans ?_
    refine (Q_ialoadV zm_95 (Or.inl (by decide)) D95_21 (by decide)).trans ?_
    refine zand_c (fun h1_ => ?_)
    refine (Q_sipush (v := 1000) zm_95 (Or.inl (by decide)) D95_22 (by decide)).trans ?_
    refine (Q_aload_n zm_95 (Or.inl (by decide)) D95_25 rfl).trans ?_
    refine (Q_getR (q := pl) zm_95 (Or.inl (by decide)) D95_26 zf_9_21 zs_9_1 zk_0.1 rfl).trans ?_
    refine (Q_getR (q := (pl + 2)) zm_95 (Or.inl (by decide)) D95_29 zf_9_147 zs_3_6 (zkp_0 hpl).1 (zrp_6 hpl)).trans ?_
    refine (Q_iload_n zm_95 (Or.inl (by decide)) D95_32 rfl).trans ?_
    refine (Q_iconst (v := 3) zm_95 (Or.inl (by decide)) D95_33 (by decide)).trans ?_
    refine (Q_imul zm_95 (Or.inl (by decide)) D95_34).trans ?_
    refine (Q_iload zm_95 (Or.inl (by decide)) D95_35 rfl).trans ?_
    refine (Q_iadd zm_95 (Or.inl (by decide)) D95_37).trans ?_
    refine (Q_iaload zm_95 (Or.inl (by decide)) D95_38 (zkp_2 hpl).1 (zkp_2 hpl).2).trans ?_
    refine zand_c (fun h2_ => ?_)
    refine (Q_imul zm_95 (Or.inl (by decide)) D95_39).trans ?_
    refine (Q_isub zm_95 (Or.inl (by decide)) D95_40).trans ?_
    refine (Q_bis (as := [.int ((ia r1 (((i2 * (3 : Int32)) + i5)).toNatClampNeg) - ((1000 : Int32) * (ia (pl + 2) (((i3 * (3 : Int32)) + i5)).toNatClampNeg)))]) (rest := [.int i4]) zm_95 (Or.inl (by decide)) D95_41 zc_9_246 rfl (by decide) (by simp [zcat, Value.category]) rfl).trans ?_
    refine (Q_iadd zm_95 (Or.inl (by decide)) D95_44).trans ?_
    refine (Q_istore (ls' := [some (.ref 0), some (.ref r1), some (.int i2), some (.int i3), some (.int (i4 + (if 0 ≤ ((ia r1 (((i2 * (3 : Int32)) + i5)).toNatClampNeg) - ((1000 : Int32) * (ia (pl + 2) (((i3 * (3 : Int32)) + i5)).toNatClampNeg))) then ((ia r1 (((i2 * (3 : Int32)) + i5)).toNatClampNeg) - ((1000 : Int32) * (ia (pl + 2) (((i3 * (3 : Int32)) + i5)).toNatClampNeg))) else 0 - ((ia r1 (((i2 * (3 : Int32)) + i5)).toNatClampNeg) - ((1000 : Int32) * (ia (pl + 2) (((i3 * (3 : Int32)) + i5)).toNatClampNeg)))))), some (.int i5)]) zm_95 (Or.inl (by decide)) D95_45 rfl (Nat.le_of_ble_eq_true rfl) rfl).trans ?_
    refine (Q_iinc (v := 1) (ls' := [some (.ref 0), some (.ref r1), some (.int i2), some (.int i3), some (.int (i4 + (if 0 ≤ ((ia r1 (((i2 * (3 : Int32)) + i5)).toNatClampNeg) - ((1000 : Int32) * (ia (pl + 2) (((i3 * (3 : Int32)) + i5)).toNatClampNeg))) then ((ia r1 (((i2 * (3 : Int32)) + i5)).toNatClampNeg) - ((1000 : Int32) * (ia (pl + 2) (((i3 * (3 : Int32)) + i5)).toNatClampNeg))) else 0 - ((ia r1 (((i2 * (3 : Int32)) + i5)).toNatClampNeg) - ((1000 : Int32) * (ia (pl + 2) (((i3 * (3 : Int32)) + i5)).toNatClampNeg)))))), some (.int (i5 + (1 : Int32)))]) zm_95 (Or.inl (by decide)) D95_47 rfl rfl (by decide) rfl).trans ?_
    refine (Q_goto (tgt := 6) zm_95 (Or.inl (by decide)) D95_50 (by decide)).trans ?_
    rfl

/-! HandsLet.apart(II)I -/
theorem D96_0 : decode prog_1_method_23_code 0 = .ok (.aload_n 0, 1) := by decide +kernel
theorem D96_1 : decode prog_1_method_23_code 1 = .ok (.iload_n 1, 1) := by decide +kernel
theorem D96_2 : decode prog_1_method_23_code 2 = .ok (.invokevirtual 122, 3) := by decide +kernel
theorem D96_5 : decode prog_1_method_23_code 5 = .ok (.ifCond .eq 27, 3) := by decide +kernel
theorem D96_8 : decode prog_1_method_23_code 8 = .ok (.aload_n 0, 1) := by decide +kernel
theorem D96_9 : decode prog_1_method_23_code 9 = .ok (.iload_n 2, 1) := by decide +kernel
theorem D96_10 : decode prog_1_method_23_code 10 = .ok (.invokevirtual 122, 3) := by decide +kernel
theorem D96_13 : decode prog_1_method_23_code 13 = .ok (.ifCond .eq 19, 3) := by decide +kernel
theorem D96_16 : decode prog_1_method_23_code 16 = .ok (.aload_n 0, 1) := by decide +kernel
theorem D96_17 : decode prog_1_method_23_code 17 = .ok (.aload_n 0, 1) := by decide +kernel
theorem D96_18 : decode prog_1_method_23_code 18 = .ok (.getfield 31, 3) := by decide +kernel
theorem D96_21 : decode prog_1_method_23_code 21 = .ok (.getfield 129, 3) := by decide +kernel
theorem D96_24 : decode prog_1_method_23_code 24 = .ok (.iload_n 1, 1) := by decide +kernel
theorem D96_25 : decode prog_1_method_23_code 25 = .ok (.iload_n 2, 1) := by decide +kernel
theorem D96_26 : decode prog_1_method_23_code 26 = .ok (.invokevirtual 220, 3) := by decide +kernel
theorem D96_29 : decode prog_1_method_23_code 29 = .ok (.goto 4, 3) := by decide +kernel
theorem D96_32 : decode prog_1_method_23_code 32 = .ok (.iconst (-1), 1) := by decide +kernel
theorem D96_33 : decode prog_1_method_23_code 33 = .ok (.ireturn, 1) := by decide +kernel

theorem b96_0 {d : Nat} {i1 : Int32} {i2 : Int32} {ia : Nat → Nat → Int32} {la : Nat → Nat → Int64} {pl dr : Nat} {cp : Option Nat} {cw : Option Nat} {rp : Option Nat} {K : Option Value → zHP → Prop}  : zWP (d + 1) 96 0 [some (.ref 0), some (.int i1), some (.int i2)] [] (ia, la, zRA pl dr cp cw rp) K = zWM d 80 [.ref 0, .int i1] (ia, la, zRA pl dr cp cw rp) (zK (d + 1) 96 5 [some (.ref 0), some (.int i1), some (.int i2)] [] K) := by
  refine (Q_aload_n zm_96 (Or.inl (by decide)) D96_0 rfl).trans ?_
  refine (Q_iload_n zm_96 (Or.inl (by decide)) D96_1 rfl).trans ?_
  exact Q_callv (as := [.int i1]) (b := 0) (rest := []) zm_96 (Or.inl (by decide)) D96_2 zc_9_122 rfl zk_0.1 (by decide) (by decide +kernel) (by decide) (by simp [zcat, Value.category]) zm_80 rfl

theorem b96_5 {d : Nat} {i1 : Int32} {i2 : Int32} {s0 : Int32} {ia : Nat → Nat → Int32} {la : Nat → Nat → Int64} {pl dr : Nat} {cp : Option Nat} {cw : Option Nat} {rp : Option Nat} {K : Option Value → zHP → Prop}  : zWP (d + 1) 96 5 [some (.ref 0), some (.int i1), some (.int i2)] [.int s0] (ia, la, zRA pl dr cp cw rp) K = (if s0 = 0 then K (some (.int (-1 : Int32))) (ia, la, zRA pl dr cp cw rp) else zWM d 80 [.ref 0, .int i2] (ia, la, zRA pl dr cp cw rp) (zK (d + 1) 96 13 [some (.ref 0), some (.int i1), some (.int i2)] [] K)) := by
  refine (Q_if_eq (tgt := 32) zm_96 (Or.inl (by decide)) D96_5 (by decide)).trans ?_
  refine zif_c (fun h0_ => ?_) (fun h0_ => ?_)
  · refine (Q_iconst (v := -1) zm_96 (Or.inl (by decide)) D96_32 (by decide)).trans ?_
    exact Q_ireturn zm_96 (Or.inl (by decide)) D96_33 rfl
  · refine (Q_aload_n zm_96 (Or.inl (by decide)) D96_8 rfl).trans ?_
    refine (Q_iload_n zm_96 (Or.inl (by decide)) D96_9 rfl).trans ?_
    exact Q_callv (as := [.int i2]) (b := 0) (rest := []) zm_96 (Or.inl (by decide)) D96_10 zc_9_122 rfl zk_0.1 (by decide) (by decide +kernel) (by decide) (by simp [zcat, Value.category]) zm_80 rfl

theorem b96_13 {d : Nat} {i1 : Int32} {i2 : Int32} {s0 : Int32} {ia : Nat → Nat → Int32} {la : Nat → Nat → Int64} {pl dr : Nat} {cp : Option Nat} {cw : Option Nat} {rp : Option Nat} {K : Option Value → zHP → Prop}  : zWP (d + 1) 96 13 [some (.ref 0), some (.int i1), some (.int i2)] [.int s0] (ia, la, zRA pl dr cp cw rp) K = (if s0 = 0 then K (some (.int (-1 : Int32))) (ia, la, zRA pl dr cp cw rp) else zWM d 95 [.ref 0, .ref 74, .int i1, .int i2] (ia, la, zRA pl dr cp cw rp) (zK (d + 1) 96 29 [some (.ref 0), some (.int i1), some (.int i2)] [] K)) := by
  refine (Q_if_eq (tgt := 32) zm_96 (Or.inl (by decide)) D96_13 (by decide)).trans ?_
  refine zif_c (fun h0_ => ?_) (fun h0_ => ?_)
  · refine (Q_iconst (v := -1) zm_96 (Or.inl (by decide)) D96_32 (by decide)).trans ?_
    exact Q_ireturn zm_96 (Or.inl (by decide)) D96_33 rfl
  · refine (Q_aload_n zm_96 (Or.inl (by decide)) D96_16 rfl).trans ?_
    refine (Q_aload_n zm_96 (Or.inl (by decide)) D96_17 rfl).trans ?_
    refine (Q_getR (q := 72) zm_96 (Or.inl (by decide)) D96_18 zf_9_31 zs_9_3 zk_0.1 rfl).trans ?_
    refine (Q_getR (q := 74) zm_96 (Or.inl (by decide)) D96_21 zf_9_129 zs_8_3 zk_72.1 rfl).trans ?_
    refine (Q_iload_n zm_96 (Or.inl (by decide)) D96_24 rfl).trans ?_
    refine (Q_iload_n zm_96 (Or.inl (by decide)) D96_25 rfl).trans ?_
    exact Q_callv (as := [.ref 74, .int i1, .int i2]) (b := 0) (rest := []) zm_96 (Or.inl (by decide)) D96_26 zc_9_220 rfl zk_0.1 (by decide) (by decide +kernel) (by decide) (by simp [zcat, Value.category]) zm_95 rfl

theorem b96_29 {d : Nat} {i1 : Int32} {i2 : Int32} {s0 : Int32} {ia : Nat → Nat → Int32} {la : Nat → Nat → Int64} {pl dr : Nat} {cp : Option Nat} {cw : Option Nat} {rp : Option Nat} {K : Option Value → zHP → Prop}  : zWP d 96 29 [some (.ref 0), some (.int i1), some (.int i2)] [.int s0] (ia, la, zRA pl dr cp cw rp) K = K (some (.int s0)) (ia, la, zRA pl dr cp cw rp) := by
  refine (Q_goto (tgt := 33) zm_96 (Or.inl (by decide)) D96_29 (by decide)).trans ?_
  exact Q_ireturn zm_96 (Or.inl (by decide)) D96_33 rfl

/-! HandsLet.like(I)I -/
theorem D97_0 : decode prog_1_method_24_code 0 = .ok (.aload_n 0, 1) := by decide +kernel
theorem D97_1 : decode prog_1_method_24_code 1 = .ok (.iload_n 1, 1) := by decide +kernel
theorem D97_2 : decode prog_1_method_24_code 2 = .ok (.invokevirtual 122, 3) := by decide +kernel
theorem D97_5 : decode prog_1_method_24_code 5 = .ok (.ifCond .ne 5, 3) := by decide +kernel
theorem D97_8 : decode prog_1_method_24_code 8 = .ok (.iconst (-1), 1) := by decide +kernel
theorem D97_9 : decode prog_1_method_24_code 9 = .ok (.ireturn, 1) := by decide +kernel
theorem D97_10 : decode prog_1_method_24_code 10 = .ok (.iconst 0, 1) := by decide +kernel
theorem D97_11 : decode prog_1_method_24_code 11 = .ok (.istore_n 2, 1) := by decide +kernel
theorem D97_12 : decode prog_1_method_24_code 12 = .ok (.iconst 1, 1) := by decide +kernel
theorem D97_13 : decode prog_1_method_24_code 13 = .ok (.istore_n 3, 1) := by decide +kernel
theorem D97_14 : decode prog_1_method_24_code 14 = .ok (.iload_n 3, 1) := by decide +kernel
theorem D97_15 : decode prog_1_method_24_code 15 = .ok (.aload_n 0, 1) := by decide +kernel
theorem D97_16 : decode prog_1_method_24_code 16 = .ok (.getfield 21, 3) := by decide +kernel
theorem D97_19 : decode prog_1_method_24_code 19 = .ok (.getfield 116, 3) := by decide +kernel
theorem D97_22 : decode prog_1_method_24_code 22 = .ok (.if_icmp .ge 40, 3) := by decide +kernel
theorem D97_25 : decode prog_1_method_24_code 25 = .ok (.aload_n 0, 1) := by decide +kernel
theorem D97_26 : decode prog_1_method_24_code 26 = .ok (.aload_n 0, 1) := by decide +kernel
theorem D97_27 : decode prog_1_method_24_code 27 = .ok (.getfield 31, 3) := by decide +kernel
theorem D97_30 : decode prog_1_method_24_code 30 = .ok (.getfield 129, 3) := by decide +kernel
theorem D97_33 : decode prog_1_method_24_code 33 = .ok (.iload_n 1, 1) := by decide +kernel
theorem D97_34 : decode prog_1_method_24_code 34 = .ok (.iload_n 3, 1) := by decide +kernel
theorem D97_35 : decode prog_1_method_24_code 35 = .ok (.invokevirtual 220, 3) := by decide +kernel
theorem D97_38 : decode prog_1_method_24_code 38 = .ok (.aload_n 0, 1) := by decide +kernel
theorem D97_39 : decode prog_1_method_24_code 39 = .ok (.aload_n 0, 1) := by decide +kernel
theorem D97_40 : decode prog_1_method_24_code 40 = .ok (.getfield 31, 3) := by decide +kernel
theorem D97_43 : decode prog_1_method_24_code 43 = .ok (.getfield 129, 3) := by decide +kernel
theorem D97_46 : decode prog_1_method_24_code 46 = .ok (.iload_n 1, 1) := by decide +kernel
theorem D97_47 : decode prog_1_method_24_code 47 = .ok (.iload_n 2, 1) := by decide +kernel
theorem D97_48 : decode prog_1_method_24_code 48 = .ok (.invokevirtual 220, 3) := by decide +kernel
theorem D97_51 : decode prog_1_method_24_code 51 = .ok (.if_icmp .ge 5, 3) := by decide +kernel
theorem D97_54 : decode prog_1_method_24_code 54 = .ok (.iload_n 3, 1) := by decide +kernel
theorem D97_55 : decode prog_1_method_24_code 55 = .ok (.istore_n 2, 1) := by decide +kernel
theorem D97_56 : decode prog_1_method_24_code 56 = .ok (.iinc 3 1, 3) := by decide +kernel
theorem D97_59 : decode prog_1_method_24_code 59 = .ok (.goto (-45), 3) := by decide +kernel
theorem D97_62 : decode prog_1_method_24_code 62 = .ok (.iload_n 2, 1) := by decide +kernel
theorem D97_63 : decode prog_1_method_24_code 63 = .ok (.ireturn, 1) := by decide +kernel

theorem b97_0 {d : Nat} {i1 : Int32} {ia : Nat → Nat → Int32} {la : Nat → Nat → Int64} {pl dr : Nat} {cp : Option Nat} {cw : Option Nat} {rp : Option Nat} {K : Option Value → zHP → Prop}  : zWP (d + 1) 97 0 [some (.ref 0), some (.int i1), none, none] [] (ia, la, zRA pl dr cp cw rp) K = zWM d 80 [.ref 0, .int i1] (ia, la, zRA pl dr cp cw rp) (zK (d + 1) 97 5 [some (.ref 0), some (.int i1), none, none] [] K) := by
  refine (Q_aload_n zm_97 (Or.inl (by decide)) D97_0 rfl).trans ?_
  refine (Q_iload_n zm_97 (Or.inl (by decide)) D97_1 rfl).trans ?_
  exact Q_callv (as := [.int i1]) (b := 0) (rest := []) zm_97 (Or.inl (by decide)) D97_2 zc_9_122 rfl zk_0.1 (by decide) (by decide +kernel) (by decide) (by simp [zcat, Value.category]) zm_80 rfl

theorem b97_5 {d : Nat} {i1 : Int32} {s0 : Int32} {ia : Nat → Nat → Int32} {la : Nat → Nat → Int64} {pl dr : Nat} {cp : Option Nat} {cw : Option Nat} {rp : Option Nat} {K : Option Value → zHP → Prop}  : zWP d 97 5 [some (.ref 0), some (.int i1), none, none] [.int s0] (ia, la, zRA pl dr cp cw rp) K = (if ¬ s0 = 0 then zWP d 97 14 [some (.ref 0), some (.int i1), some (.int (0 : Int32)), some (.int (1 : Int32))] [] (ia, la, zRA pl dr cp cw rp) K else K (some (.int (-1 : Int32))) (ia, la, zRA pl dr cp cw rp)) := by
  refine (Q_if_ne (tgt := 10) zm_97 (Or.inl (by decide)) D97_5 (by decide)).trans ?_
  refine zif_c (fun h0_ => ?_) (fun h0_ => ?_)
  · refine (Q_iconst (v := 0) zm_97 (Or.inl (by decide)) D97_10 (by decide)).trans ?_
    refine (Q_istore_n (ls' := [some (.ref 0), some (.int i1), some (.int (0 : Int32)), none]) zm_97 (Or.inl (by decide)) D97_11 rfl (Nat.le_of_ble_eq_true rfl) rfl).trans ?_
    refine (Q_iconst (v := 1) zm_97 (Or.inl (by decide)) D97_12 (by decide)).trans ?_
    refine (Q_istore_n (ls' := [some (.ref 0), some (.int i1), some (.int (0 : Int32)), some (.int (1 : Int32))]) zm_97 (Or.inl (by decide)) D97_13 rfl (Nat.le_of_ble_eq_true rfl) rfl).trans ?_
    rfl
  · refine (Q_iconst (v := -1) zm_97 (Or.inl (by decide)) D97_8 (by decide)).trans ?_
    exact Q_ireturn zm_97 (Or.inl (by decide)) D97_9 rfl

theorem b97_14 {d : Nat} {i1 : Int32} {i2 : Int32} {i3 : Int32} {ia : Nat → Nat → Int32} {la : Nat → Nat → Int64} {pl dr : Nat} {cp : Option Nat} {cw : Option Nat} {rp : Option Nat} {K : Option Value → zHP → Prop} (hpl : zIsP pl) : zWP (d + 1) 97 14 [some (.ref 0), some (.int i1), some (.int i2), some (.int i3)] [] (ia, la, zRA pl dr cp cw rp) K = (if (ia pl 1) ≤ i3 then K (some (.int i2)) (ia, la, zRA pl dr cp cw rp) else zWM d 95 [.ref 0, .ref 74, .int i1, .int i3] (ia, la, zRA pl dr cp cw rp) (zK (d + 1) 97 38 [some (.ref 0), some (.int i1), some (.int i2), some (.int i3)] [] K)) := by
  refine (Q_iload_n zm_97 (Or.inl (by decide)) D97_14 rfl).trans ?_
  refine (Q_aload_n zm_97 (Or.inl (by decide)) D97_15 rfl).trans ?_
  refine (Q_getR (q := pl) zm_97 (Or.inl (by decide)) D97_16 zf_9_21 zs_9_1 zk_0.1 rfl).trans ?_
  refine (Q_getI zm_97 (Or.inl (by decide)) D97_19 zf_9_116 (Or.inl zs_3_1) (zkp_0 hpl).1).trans ?_
  refine (Q_ic_ge (tgt := 62) zm_97 (Or.inl (by decide)) D97_22 (by decide)).trans ?_
  refine zif_c (fun h0_ => ?_) (fun h0_ => ?_)
  · refine (Q_iload_n zm_97 (Or.inl (by decide)) D97_62 rfl).trans ?_
    exact Q_ireturn zm_97 (Or.inl (by decide)) D97_63 rfl
  · refine (Q_aload_n zm_97 (Or.inl (by decide)) D97_25 rfl).trans ?_
    refine (Q_aload_n zm_97 (Or.inl (by decide)) D97_26 rfl).trans ?_
    refine (Q_getR (q := 72) zm_97 (Or.inl (by decide)) D97_27 zf_9_31 zs_9_3 zk_0.1 rfl).trans ?_
    refine (Q_getR (q := 74) zm_97 (Or.inl (by decide)) D97_30 zf_9_129 zs_8_3 zk_72.1 rfl).trans ?_
    refine (Q_iload_n zm_97 (Or.inl (by decide)) D97_33 rfl).trans ?_
    refine (Q_iload_n zm_97 (Or.inl (by decide)) D97_34 rfl).trans ?_
    exact Q_callv (as := [.ref 74, .int i1, .int i3]) (b := 0) (rest := []) zm_97 (Or.inl (by decide)) D97_35 zc_9_220 rfl zk_0.1 (by decide) (by decide +kernel) (by decide) (by simp [zcat, Value.category]) zm_95 rfl

theorem b97_38 {d : Nat} {i1 : Int32} {i2 : Int32} {i3 : Int32} {s0 : Int32} {ia : Nat → Nat → Int32} {la : Nat → Nat → Int64} {pl dr : Nat} {cp : Option Nat} {cw : Option Nat} {rp : Option Nat} {K : Option Value → zHP → Prop}  : zWP (d + 1) 97 38 [some (.ref 0), some (.int i1), some (.int i2), some (.int i3)] [.int s0] (ia, la, zRA pl dr cp cw rp) K = zWM d 95 [.ref 0, .ref 74, .int i1, .int i2] (ia, la, zRA pl dr cp cw rp) (zK (d + 1) 97 51 [some (.ref 0), some (.int i1), some (.int i2), some (.int i3)] [.int s0] K) := by
  refine (Q_aload_n zm_97 (Or.inl (by decide)) D97_38 rfl).trans ?_
  refine (Q_aload_n zm_97 (Or.inl (by decide)) D97_39 rfl).trans ?_
  refine (Q_getR (q := 72) zm_97 (Or.inl (by decide)) D97_40 zf_9_31 zs_9_3 zk_0.1 rfl).trans ?_
  refine (Q_getR (q := 74) zm_97 (Or.inl (by decide)) D97_43 zf_9_129 zs_8_3 zk_72.1 rfl).trans ?_
  refine (Q_iload_n zm_97 (Or.inl (by decide)) D97_46 rfl).trans ?_
  refine (Q_iload_n zm_97 (Or.inl (by decide)) D97_47 rfl).trans ?_
  exact Q_callv (as := [.ref 74, .int i1, .int i2]) (b := 0) (rest := [.int s0]) zm_97 (Or.inl (by decide)) D97_48 zc_9_220 rfl zk_0.1 (by decide) (by decide +kernel) (by decide) (by simp [zcat, Value.category]) zm_95 rfl

theorem b97_51 {d : Nat} {i1 : Int32} {i2 : Int32} {i3 : Int32} {s0 : Int32} {s1 : Int32} {ia : Nat → Nat → Int32} {la : Nat → Nat → Int64} {pl dr : Nat} {cp : Option Nat} {cw : Option Nat} {rp : Option Nat} {K : Option Value → zHP → Prop}  : zWP d 97 51 [some (.ref 0), some (.int i1), some (.int i2), some (.int i3)] [.int s1, .int s0] (ia, la, zRA pl dr cp cw rp) K = (if s1 ≤ s0 then zWP d 97 14 [some (.ref 0), some (.int i1), some (.int i2), some (.int (i3 + (1 : Int32)))] [] (ia, la, zRA pl dr cp cw rp) K else zWP d 97 14 [some (.ref 0), some (.int i1), some (.int i3), some (.int (i3 + (1 : Int32)))] [] (ia, la, zRA pl dr cp cw rp) K) := by
  refine (Q_ic_ge (tgt := 56) zm_97 (Or.inl (by decide)) D97_51 (by decide)).trans ?_
  refine zif_c (fun h0_ => ?_) (fun h0_ => ?_)
  · refine (Q_iinc (v := 1) (ls' := [some (.ref 0), some (.int i1), some (.int i2), some (.int (i3 + (1 : Int32)))]) zm_97 (Or.inl (by decide)) D97_56 rfl rfl (by decide) rfl).trans ?_
    refine (Q_goto (tgt := 14) zm_97 (Or.inl (by decide)) D97_59 (by decide)).trans ?_
    rfl
  · refine (Q_iload_n zm_97 (Or.inl (by decide)) D97_54 rfl).trans ?_
    refine (Q_istore_n (ls' := [some (.ref 0), some (.int i1), some (.int i3), some (.int i3)]) zm_97 (Or.inl (by decide)) D97_55 rfl (Nat.le_of_ble_eq_true rfl) rfl).trans ?_
    refine (Q_iinc (v := 1) (ls' := [some (.ref 0), some (.int i1), some (.int i3), some (.int (i3 + (1 : Int32)))]) zm_97 (Or.inl (by decide)) D97_56 rfl rfl (by decide) rfl).trans ?_
    refine (Q_goto (tgt := 14) zm_97 (Or.inl (by decide)) D97_59 (by decide)).trans ?_
    rfl

/-! HandsLet.could(II)I -/
theorem D98_0 : decode prog_1_method_25_code 0 = .ok (.aload_n 0, 1) := by decide +kernel
theorem D98_1 : decode prog_1_method_25_code 1 = .ok (.iload_n 1, 1) := by decide +kernel
theorem D98_2 : decode prog_1_method_25_code 2 = .ok (.invokevirtual 164, 3) := by decide +kernel
theorem D98_5 : decode prog_1_method_25_code 5 = .ok (.ifCond .eq 13, 3) := by decide +kernel
theorem D98_8 : decode prog_1_method_25_code 8 = .ok (.iload_n 2, 1) := by decide +kernel
theorem D98_9 : decode prog_1_method_25_code 9 = .ok (.ifCond .lt 9, 3) := by decide +kernel
theorem D98_12 : decode prog_1_method_25_code 12 = .ok (.iload_n 2, 1) := by decide +kernel
theorem D98_13 : decode prog_1_method_25_code 13 = .ok (.ldc 251, 2) := by decide +kernel
theorem D98_15 : decode prog_1_method_25_code 15 = .ok (.if_icmp .le 5, 3) := by decide +kernel
theorem D98_18 : decode prog_1_method_25_code 18 = .ok (.iconst (-1), 1) := by decide +kernel
theorem D98_19 : decode prog_1_method_25_code 19 = .ok (.ireturn, 1) := by decide +kernel
theorem D98_20 : decode prog_1_method_25_code 20 = .ok (.aload_n 0, 1) := by decide +kernel
theorem D98_21 : decode prog_1_method_25_code 21 = .ok (.getfield 31, 3) := by decide +kernel
theorem D98_24 : decode prog_1_method_25_code 24 = .ok (.getfield 161, 3) := by decide +kernel
theorem D98_27 : decode prog_1_method_25_code 27 = .ok (.iload_n 1, 1) := by decide +kernel
theorem D98_28 : decode prog_1_method_25_code 28 = .ok (.iaload, 1) := by decide +kernel
theorem D98_29 : decode prog_1_method_25_code 29 = .ok (.ifCond .ne 6, 3) := by decide +kernel
theorem D98_32 : decode prog_1_method_25_code 32 = .ok (.bipush (-2), 2) := by decide +kernel
theorem D98_34 : decode prog_1_method_25_code 34 = .ok (.ireturn, 1) := by decide +kernel
theorem D98_35 : decode prog_1_method_25_code 35 = .ok (.iconst 0, 1) := by decide +kernel
theorem D98_36 : decode prog_1_method_25_code 36 = .ok (.istore_n 3, 1) := by decide +kernel
theorem D98_37 : decode prog_1_method_25_code 37 = .ok (.iconst 0, 1) := by decide +kernel
theorem D98_38 : decode prog_1_method_25_code 38 = .ok (.istore 4, 2) := by decide +kernel
theorem D98_40 : decode prog_1_method_25_code 40 = .ok (.iload 4, 2) := by decide +kernel
theorem D98_42 : decode prog_1_method_25_code 42 = .ok (.aload_n 0, 1) := by decide +kernel
theorem D98_43 : decode prog_1_method_25_code 43 = .ok (.getfield 21, 3) := by decide +kernel
theorem D98_46 : decode prog_1_method_25_code 46 = .ok (.getfield 116, 3) := by decide +kernel
theorem D98_49 : decode prog_1_method_25_code 49 = .ok (.if_icmp .ge 34, 3) := by decide +kernel
theorem D98_52 : decode prog_1_method_25_code 52 = .ok (.aload_n 0, 1) := by decide +kernel
theorem D98_53 : decode prog_1_method_25_code 53 = .ok (.aload_n 0, 1) := by decide +kernel
theorem D98_54 : decode prog_1_method_25_code 54 = .ok (.getfield 31, 3) := by decide +kernel
theorem D98_57 : decode prog_1_method_25_code 57 = .ok (.getfield 173, 3) := by decide +kernel
theorem D98_60 : decode prog_1_method_25_code 60 = .ok (.iload_n 1, 1) := by decide +kernel
theorem D98_61 : decode prog_1_method_25_code 61 = .ok (.iload 4, 2) := by decide +kernel
theorem D98_63 : decode prog_1_method_25_code 63 = .ok (.invokevirtual 220, 3) := by decide +kernel
theorem D98_66 : decode prog_1_method_25_code 66 = .ok (.iload_n 2, 1) := by decide +kernel
theorem D98_67 : decode prog_1_method_25_code 67 = .ok (.if_icmp .gt 10, 3) := by decide +kernel
theorem D98_70 : decode prog_1_method_25_code 70 = .ok (.iload_n 3, 1) := by decide +kernel
theorem D98_71 : decode prog_1_method_25_code 71 = .ok (.iconst 1, 1) := by decide +kernel
theorem D98_72 : decode prog_1_method_25_code 72 = .ok (.iload 4, 2) := by decide +kernel
theorem D98_74 : decode prog_1_method_25_code 74 = .ok (.ishl, 1) := by decide +kernel
theorem D98_75 : decode prog_1_method_25_code 75 = .ok (.ior, 1) := by decide +kernel
theorem D98_76 : decode prog_1_method_25_code 76 = .ok (.istore_n 3, 1) := by decide +kernel
theorem D98_77 : decode prog_1_method_25_code 77 = .ok (.iinc 4 1, 3) := by decide +kernel
theorem D98_80 : decode prog_1_method_25_code 80 = .ok (.goto (-40), 3) := by decide +kernel
theorem D98_83 : decode prog_1_method_25_code 83 = .ok (.iload_n 3, 1) := by decide +kernel
theorem D98_84 : decode prog_1_method_25_code 84 = .ok (.ireturn, 1) := by decide +kernel

theorem b98_0 {d : Nat} {i1 : Int32} {i2 : Int32} {ia : Nat → Nat → Int32} {la : Nat → Nat → Int64} {pl dr : Nat} {cp : Option Nat} {cw : Option Nat} {rp : Option Nat} {K : Option Value → zHP → Prop}  : zWP (d + 1) 98 0 [some (.ref 0), some (.int i1), some (.int i2), none, none] [] (ia, la, zRA pl dr cp cw rp) K = zWM d 81 [.ref 0, .int i1] (ia, la, zRA pl dr cp cw rp) (zK (d + 1) 98 5 [some (.ref 0), some (.int i1), some (.int i2), none, none] [] K) := by
  refine (Q_aload_n zm_98 (Or.inl (by decide)) D98_0 rfl).trans ?_
  refine (Q_iload_n zm_98 (Or.inl (by decide)) D98_1 rfl).trans ?_
  exact Q_callv (as := [.int i1]) (b := 0) (rest := []) zm_98 (Or.inl (by decide)) D98_2 zc_9_164 rfl zk_0.1 (by decide) (by decide +kernel) (by decide) (by simp [zcat, Value.category]) zm_81 rfl

theorem b98_5 {d : Nat} {i1 : Int32} {i2 : Int32} {s0 : Int32} {ia : Nat → Nat → Int32} {la : Nat → Nat → Int64} {pl dr : Nat} {cp : Option Nat} {cw : Option Nat} {rp : Option Nat} {K : Option Value → zHP → Prop}  : zWP d 98 5 [some (.ref 0), some (.int i1), some (.int i2), none, none] [.int s0] (ia, la, zRA pl dr cp cw rp) K = (if s0 = 0 then K (some (.int (-1 : Int32))) (ia, la, zRA pl dr cp cw rp) else (if i2 < 0 then K (some (.int (-1 : Int32))) (ia, la, zRA pl dr cp cw rp) else (if i2 ≤ (999999 : Int32) then (vp_in i1 12 ∧ (if ¬ (ia 78 (i1).toNatClampNeg) = 0 then zWP d 98 40 [some (.ref 0), some (.int i1), some (.int i2), some (.int (0 : Int32)), some (.int (0 : Int32))] [] (ia, la, zRA pl dr cp cw rp) K else K (some (.int (-2 : Int32))) (ia, la, zRA pl dr cp cw rp))) else K (some (.int (-1 : Int32))) (ia, la, zRA pl dr cp cw rp)))) := by
  refine (Q_if_eq (tgt := 18) zm_98 (Or.inl (by decide)) D98_5 (by decide)).trans ?_
  refine zif_c (fun h0_ => ?_) (fun h0_ => ?_)
  · refine (Q_iconst (v := -1) zm_98 (Or.inl (by decide)) D98_18 (by decide)).trans ?_
    exact Q_ireturn zm_98 (Or.inl (by decide)) D98_19 rfl
  · refine (Q_iload_n zm_98 (Or.inl (by decide)) D98_8 rfl).trans ?_
    refine (Q_if_lt (tgt := 18) zm_98 (Or.inl (by decide)) D98_9 (by decide)).trans ?_
    refine zif_c (fun h1_ => ?_) (fun h1_ => ?_)
    · refine (Q_iconst (v := -1) zm_98 (Or.inl (by decide)) D98_18 (by decide)).trans ?_
      exact Q_ireturn zm_98 (Or.inl (by decide)) D98_19 rfl
    · refine (Q_iload_n zm_98 (Or.inl (by decide)) D98_12 rfl).trans ?_
      refine (Q_ldc (v := 999999) zm_98 (Or.inl (by decide)) D98_13 (by decide +kernel)).trans ?_
      refine (Q_ic_le (tgt := 20) zm_98 (Or.inl (by decide)) D98_15 (by decide)).trans ?_
      refine zif_c (fun h2_ => ?_) (fun h2_ => ?_)
      · refine (Q_aload_n zm_98 (Or.inl (by decide)) D98_20 rfl).trans ?_
        refine (Q_getR (q := 72) zm_98 (Or.inl (by decide)) D98_21 zf_9_31 zs_9_3 zk_0.1 rfl).trans ?_
        refine (Q_getR (q := 78) zm_98 (Or.inl (by decide)) D98_24 zf_9_161 zs_8_7 zk_72.1 rfl).trans ?_
        refine (Q_iload_n zm_98 (Or.inl (by decide)) D98_27 rfl).trans ?_
        refine (Q_iaload zm_98 (Or.inl (by decide)) D98_28 zk_78.1 zk_78.2).trans ?_
        refine zand_c (fun h3_ => ?_)
        refine (Q_if_ne (tgt := 35) zm_98 (Or.inl (by decide)) D98_29 (by decide)).trans ?_
        refine zif_c (fun h4_ => ?_) (fun h4_ => ?_)
        · refine (Q_iconst (v := 0) zm_98 (Or.inl (by decide)) D98_35 (by decide)).trans ?_
          refine (Q_istore_n (ls' := [some (.ref 0), some (.int i1), some (.int i2), some (.int (0 : Int32)), none]) zm_98 (Or.inl (by decide)) D98_36 rfl (Nat.le_of_ble_eq_true rfl) rfl).trans ?_
          refine (Q_iconst (v := 0) zm_98 (Or.inl (by decide)) D98_37 (by decide)).trans ?_
          refine (Q_istore (ls' := [some (.ref 0), some (.int i1), some (.int i2), some (.int (0 : Int32)), some (.int (0 : Int32))]) zm_98 (Or.inl (by decide)) D98_38 rfl (Nat.le_of_ble_eq_true rfl) rfl).trans ?_
          rfl
        · refine (Q_bipush (v := -2) zm_98 (Or.inl (by decide)) D98_32 (by decide)).trans ?_
          exact Q_ireturn zm_98 (Or.inl (by decide)) D98_34 rfl
      · refine (Q_iconst (v := -1) zm_98 (Or.inl (by decide)) D98_18 (by decide)).trans ?_
        exact Q_ireturn zm_98 (Or.inl (by decide)) D98_19 rfl

theorem b98_40 {d : Nat} {i1 : Int32} {i2 : Int32} {i3 : Int32} {i4 : Int32} {ia : Nat → Nat → Int32} {la : Nat → Nat → Int64} {pl dr : Nat} {cp : Option Nat} {cw : Option Nat} {rp : Option Nat} {K : Option Value → zHP → Prop} (hpl : zIsP pl) : zWP (d + 1) 98 40 [some (.ref 0), some (.int i1), some (.int i2), some (.int i3), some (.int i4)] [] (ia, la, zRA pl dr cp cw rp) K = (if (ia pl 1) ≤ i4 then K (some (.int i3)) (ia, la, zRA pl dr cp cw rp) else zWM d 95 [.ref 0, .ref 81, .int i1, .int i4] (ia, la, zRA pl dr cp cw rp) (zK (d + 1) 98 66 [some (.ref 0), some (.int i1), some (.int i2), some (.int i3), some (.int i4)] [] K)) := by
  refine (Q_iload zm_98 (Or.inl (by decide)) D98_40 rfl).trans ?_
  refine (Q_aload_n zm_98 (Or.inl (by decide)) D98_42 rfl).trans ?_
  refine (Q_getR (q := pl) zm_98 (Or.inl (by decide)) D98_43 zf_9_21 zs_9_1 zk_0.1 rfl).trans ?_
  refine (Q_getI zm_98 (Or.inl (by decide)) D98_46 zf_9_116 (Or.inl zs_3_1) (zkp_0 hpl).1).trans ?_
  refine (Q_ic_ge (tgt := 83) zm_98 (Or.inl (by decide)) D98_49 (by decide)).trans ?_
  refine zif_c (fun h0_ => ?_) (fun h0_ => ?_)
  · refine (Q_iload_n zm_98 (Or.inl (by decide)) D98_83 rfl).trans ?_
    exact Q_ireturn zm_98 (Or.inl (by decide)) D98_84 rfl
  · refine (Q_aload_n zm_98 (Or.inl (by decide)) D98_52 rfl).trans ?_
    refine (Q_aload_n zm_98 (Or.inl (by decide)) D98_53 rfl).trans ?_
    refine (Q_getR (q := 72) zm_98 (Or.inl (by decide)) D98_54 zf_9_31 zs_9_3 zk_0.1 rfl).trans ?_
    refine (Q_getR (q := 81) zm_98 (Or.inl (by decide)) D98_57 zf_9_173 zs_8_10 zk_72.1 rfl).trans ?_
    refine (Q_iload_n zm_98 (Or.inl (by decide)) D98_60 rfl).trans ?_
    refine (Q_iload zm_98 (Or.inl (by decide)) D98_61 rfl).trans ?_
    exact Q_callv (as := [.ref 81, .int i1, .int i4]) (b := 0) (rest := []) zm_98 (Or.inl (by decide)) D98_63 zc_9_220 rfl zk_0.1 (by decide) (by decide +kernel) (by decide) (by simp [zcat, Value.category]) zm_95 rfl

theorem b98_66 {d : Nat} {i1 : Int32} {i2 : Int32} {i3 : Int32} {i4 : Int32} {s0 : Int32} {ia : Nat → Nat → Int32} {la : Nat → Nat → Int64} {pl dr : Nat} {cp : Option Nat} {cw : Option Nat} {rp : Option Nat} {K : Option Value → zHP → Prop}  : zWP d 98 66 [some (.ref 0), some (.int i1), some (.int i2), some (.int i3), some (.int i4)] [.int s0] (ia, la, zRA pl dr cp cw rp) K = (if i2 < s0 then zWP d 98 40 [some (.ref 0), some (.int i1), some (.int i2), some (.int i3), some (.int (i4 + (1 : Int32)))] [] (ia, la, zRA pl dr cp cw rp) K else zWP d 98 40 [some (.ref 0), some (.int i1), some (.int i2), some (.int (i3 ||| ((1 : Int32) <<< (i4 &&& 31)))), some (.int (i4 + (1 : Int32)))] [] (ia, la, zRA pl dr cp cw rp) K) := by
  refine (Q_iload_n zm_98 (Or.inl (by decide)) D98_66 rfl).trans ?_
  refine (Q_ic_gt (tgt := 77) zm_98 (Or.inl (by decide)) D98_67 (by decide)).trans ?_
  refine zif_c (fun h0_ => ?_) (fun h0_ => ?_)
  · refine (Q_iinc (v := 1) (ls' := [some (.ref 0), some (.int i1), some (.int i2), some (.int i3), some (.int (i4 + (1 : Int32)))]) zm_98 (Or.inl (by decide)) D98_77 rfl rfl (by decide) rfl).trans ?_
    refine (Q_goto (tgt := 40) zm_98 (Or.inl (by decide)) D98_80 (by decide)).trans ?_
    rfl
  · refine (Q_iload_n zm_98 (Or.inl (by decide)) D98_70 rfl).trans ?_
    refine (Q_iconst (v := 1) zm_98 (Or.inl (by decide)) D98_71 (by decide)).trans ?_
    refine (Q_iload zm_98 (Or.inl (by decide)) D98_72 rfl).trans ?_
    refine (Q_ishl zm_98 (Or.inl (by decide)) D98_74).trans ?_
    refine (Q_ior zm_98 (Or.inl (by decide)) D98_75).trans ?_
    refine (Q_istore_n (ls' := [some (.ref 0), some (.int i1), some (.int i2), some (.int (i3 ||| ((1 : Int32) <<< (i4 &&& 31)))), some (.int i4)]) zm_98 (Or.inl (by decide)) D98_76 rfl (Nat.le_of_ble_eq_true rfl) rfl).trans ?_
    refine (Q_iinc (v := 1) (ls' := [some (.ref 0), some (.int i1), some (.int i2), some (.int (i3 ||| ((1 : Int32) <<< (i4 &&& 31)))), some (.int (i4 + (1 : Int32)))]) zm_98 (Or.inl (by decide)) D98_77 rfl rfl (by decide) rfl).trans ?_
    refine (Q_goto (tgt := 40) zm_98 (Or.inl (by decide)) D98_80 (by decide)).trans ?_
    rfl
