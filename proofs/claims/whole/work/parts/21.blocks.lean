/-! HandsLet$Reader.readLease()V -/
theorem D29_0 : decode prog_6_method_9_code 0 = .ok (.aload_n 0, 1) := by decide +kernel
theorem D29_1 : decode prog_6_method_9_code 1 = .ok (.getfield 26, 3) := by decide +kernel
theorem D29_4 : decode prog_6_method_9_code 4 = .ok (.getfield 108, 3) := by decide +kernel
theorem D29_7 : decode prog_6_method_9_code 7 = .ok (.bipush 10, 2) := by decide +kernel
theorem D29_9 : decode prog_6_method_9_code 9 = .ok (.if_icmp .lt 9, 3) := by decide +kernel
theorem D29_12 : decode prog_6_method_9_code 12 = .ok (.aload_n 0, 1) := by decide +kernel
theorem D29_13 : decode prog_6_method_9_code 13 = .ok (.iconst 2, 1) := by decide +kernel
theorem D29_14 : decode prog_6_method_9_code 14 = .ok (.invokevirtual 78, 3) := by decide +kernel
theorem D29_17 : decode prog_6_method_9_code 17 = .ok (.return_, 1) := by decide +kernel
theorem D29_18 : decode prog_6_method_9_code 18 = .ok (.aload_n 0, 1) := by decide +kernel
theorem D29_19 : decode prog_6_method_9_code 19 = .ok (.getfield 26, 3) := by decide +kernel
theorem D29_22 : decode prog_6_method_9_code 22 = .ok (.getfield 111, 3) := by decide +kernel
theorem D29_25 : decode prog_6_method_9_code 25 = .ok (.aload_n 0, 1) := by decide +kernel
theorem D29_26 : decode prog_6_method_9_code 26 = .ok (.getfield 26, 3) := by decide +kernel
theorem D29_29 : decode prog_6_method_9_code 29 = .ok (.getfield 108, 3) := by decide +kernel
theorem D29_32 : decode prog_6_method_9_code 32 = .ok (.aaload, 1) := by decide +kernel
theorem D29_33 : decode prog_6_method_9_code 33 = .ok (.astore_n 1, 1) := by decide +kernel
theorem D29_34 : decode prog_6_method_9_code 34 = .ok (.aload_n 0, 1) := by decide +kernel
theorem D29_35 : decode prog_6_method_9_code 35 = .ok (.getfield 12, 3) := by decide +kernel
theorem D29_38 : decode prog_6_method_9_code 38 = .ok (.invokevirtual 75, 3) := by decide +kernel
theorem D29_41 : decode prog_6_method_9_code 41 = .ok (.aload_n 1, 1) := by decide +kernel
theorem D29_42 : decode prog_6_method_9_code 42 = .ok (.iconst 0, 1) := by decide +kernel
theorem D29_43 : decode prog_6_method_9_code 43 = .ok (.aload_n 0, 1) := by decide +kernel
theorem D29_44 : decode prog_6_method_9_code 44 = .ok (.bipush (-2), 2) := by decide +kernel
theorem D29_46 : decode prog_6_method_9_code 46 = .ok (.invokevirtual 115, 3) := by decide +kernel
theorem D29_49 : decode prog_6_method_9_code 49 = .ok (.iastore, 1) := by decide +kernel
theorem D29_50 : decode prog_6_method_9_code 50 = .ok (.aload_n 1, 1) := by decide +kernel
theorem D29_51 : decode prog_6_method_9_code 51 = .ok (.iconst 1, 1) := by decide +kernel
theorem D29_52 : decode prog_6_method_9_code 52 = .ok (.aload_n 0, 1) := by decide +kernel
theorem D29_53 : decode prog_6_method_9_code 53 = .ok (.aload_n 1, 1) := by decide +kernel
theorem D29_54 : decode prog_6_method_9_code 54 = .ok (.iconst 0, 1) := by decide +kernel
theorem D29_55 : decode prog_6_method_9_code 55 = .ok (.iaload, 1) := by decide +kernel
theorem D29_56 : decode prog_6_method_9_code 56 = .ok (.invokevirtual 115, 3) := by decide +kernel
theorem D29_59 : decode prog_6_method_9_code 59 = .ok (.iastore, 1) := by decide +kernel
theorem D29_60 : decode prog_6_method_9_code 60 = .ok (.aload_n 1, 1) := by decide +kernel
theorem D29_61 : decode prog_6_method_9_code 61 = .ok (.iconst 2, 1) := by decide +kernel
theorem D29_62 : decode prog_6_method_9_code 62 = .ok (.aload_n 0, 1) := by decide +kernel
theorem D29_63 : decode prog_6_method_9_code 63 = .ok (.iconst 0, 1) := by decide +kernel
theorem D29_64 : decode prog_6_method_9_code 64 = .ok (.bipush 99, 2) := by decide +kernel
theorem D29_66 : decode prog_6_method_9_code 66 = .ok (.invokevirtual 101, 3) := by decide +kernel
theorem D29_69 : decode prog_6_method_9_code 69 = .ok (.iastore, 1) := by decide +kernel
theorem D29_70 : decode prog_6_method_9_code 70 = .ok (.aload_n 1, 1) := by decide +kernel
theorem D29_71 : decode prog_6_method_9_code 71 = .ok (.iconst 3, 1) := by decide +kernel
theorem D29_72 : decode prog_6_method_9_code 72 = .ok (.aload_n 0, 1) := by decide +kernel
theorem D29_73 : decode prog_6_method_9_code 73 = .ok (.iconst 1, 1) := by decide +kernel
theorem D29_74 : decode prog_6_method_9_code 74 = .ok (.bipush 99, 2) := by decide +kernel
theorem D29_76 : decode prog_6_method_9_code 76 = .ok (.invokevirtual 101, 3) := by decide +kernel
theorem D29_79 : decode prog_6_method_9_code 79 = .ok (.iastore, 1) := by decide +kernel
theorem D29_80 : decode prog_6_method_9_code 80 = .ok (.aload_n 1, 1) := by decide +kernel
theorem D29_81 : decode prog_6_method_9_code 81 = .ok (.iconst 4, 1) := by decide +kernel
theorem D29_82 : decode prog_6_method_9_code 82 = .ok (.aload_n 0, 1) := by decide +kernel
theorem D29_83 : decode prog_6_method_9_code 83 = .ok (.iconst 0, 1) := by decide +kernel
theorem D29_84 : decode prog_6_method_9_code 84 = .ok (.bipush 99, 2) := by decide +kernel
theorem D29_86 : decode prog_6_method_9_code 86 = .ok (.invokevirtual 101, 3) := by decide +kernel
theorem D29_89 : decode prog_6_method_9_code 89 = .ok (.iastore, 1) := by decide +kernel
theorem D29_90 : decode prog_6_method_9_code 90 = .ok (.aload_n 0, 1) := by decide +kernel
theorem D29_91 : decode prog_6_method_9_code 91 = .ok (.getfield 26, 3) := by decide +kernel
theorem D29_94 : decode prog_6_method_9_code 94 = .ok (.dup, 1) := by decide +kernel
theorem D29_95 : decode prog_6_method_9_code 95 = .ok (.getfield 108, 3) := by decide +kernel
theorem D29_98 : decode prog_6_method_9_code 98 = .ok (.iconst 1, 1) := by decide +kernel
theorem D29_99 : decode prog_6_method_9_code 99 = .ok (.iadd, 1) := by decide +kernel
theorem D29_100 : decode prog_6_method_9_code 100 = .ok (.putfield 108, 3) := by decide +kernel
theorem D29_103 : decode prog_6_method_9_code 103 = .ok (.return_, 1) := by decide +kernel

theorem b29_0 {d : Nat}  {ia : Nat → Nat → Int32} {la : Nat → Nat → Int64} {pl dr : Nat} {cp : Option Nat} {cw : Option Nat} {rp : Nat} {K : Option Value → zHP → Prop} (hrp : zIsP rp) : zWP (d + 1) 29 0 [some (.ref 1), none] [] (ia, la, zRA pl dr cp cw (some rp)) K = (if (ia rp 2) < (10 : Int32) then (vp_in (ia rp 2) 10 ∧ zWM d 59 [.ref 2] (ia, la, zRA pl dr cp cw (some rp)) (zK (d + 1) 29 41 [some (.ref 1), some (.ref (rp + 5 + ((ia rp 2)).toNatClampNeg))] [] K)) else zWM d 23 [.ref 1, .int (2 : Int32)] (ia, la, zRA pl dr cp cw (some rp)) (zK (d + 1) 29 17 [some (.ref 1), none] [] K)) := by
  refine (Q_aload_n zm_29 (Or.inl (by decide)) D29_0 rfl).trans ?_
  refine (Q_getR (q := rp) zm_29 (Or.inl (by decide)) D29_1 zf_4_26 zs_4_1 zk_1.1 rfl).trans ?_
  refine (Q_getI zm_29 (Or.inl (by decide)) D29_4 zf_4_108 (Or.inl zs_3_2) (zkp_0 hrp).1).trans ?_
  refine (Q_bipush (v := 10) zm_29 (Or.inl (by decide)) D29_7 (by decide)).trans ?_
  refine (Q_ic_lt (tgt := 18) zm_29 (Or.inl (by decide)) D29_9 (by decide)).trans ?_
  refine zif_c (fun h0_ => ?_) (fun h0_ => ?_)
  · refine (Q_aload_n zm_29 (Or.inl (by decide)) D29_18 rfl).trans ?_
    refine (Q_getR (q := rp) zm_29 (Or.inl (by decide)) D29_19 zf_4_26 zs_4_1 zk_1.1 rfl).trans ?_
    refine (Q_getR (q := (rp + 4)) zm_29 (Or.inl (by decide)) D29_22 zf_4_111 zs_3_8 (zkp_0 hrp).1 (zrp_8 hrp)).trans ?_
    refine (Q_aload_n zm_29 (Or.inl (by decide)) D29_25 rfl).trans ?_
    refine (Q_getR (q := rp) zm_29 (Or.inl (by decide)) D29_26 zf_4_26 zs_4_1 zk_1.1 rfl).trans ?_
    refine (Q_getI zm_29 (Or.inl (by decide)) D29_29 zf_4_108 (Or.inl zs_3_2) (zkp_0 hrp).1).trans ?_
    refine (Q_aaload (f := (fun j => rp + 5 + j)) zm_29 (Or.inl (by decide)) D29_32 (zkp_4 hrp).1 (zkp_4 hrp).2 (zrow_l (pl := pl) (dr := dr) (cp := cp) (cw := cw) (rp := (some rp)) hrp)).trans ?_
    refine zand_c (fun h1_ => ?_)
    refine (Q_astore_n (ls' := [some (.ref 1), some (.ref (rp + 5 + ((ia rp 2)).toNatClampNeg))]) zm_29 (Or.inl (by decide)) D29_33 rfl (Nat.le_of_ble_eq_true rfl) rfl).trans ?_
    refine (Q_aload_n zm_29 (Or.inl (by decide)) D29_34 rfl).trans ?_
    refine (Q_getR (q := 2) zm_29 (Or.inl (by decide)) D29_35 zf_4_12 zs_4_0 zk_1.1 rfl).trans ?_
    exact Q_callv (as := []) (b := 2) (rest := []) zm_29 (Or.inl (by decide)) D29_38 zc_4_75 rfl zk_2.1 (by decide) (by decide +kernel) (by decide) (by simp [zcat, Value.category]) zm_59 rfl
  · refine (Q_aload_n zm_29 (Or.inl (by decide)) D29_12 rfl).trans ?_
    refine (Q_iconst (v := 2) zm_29 (Or.inl (by decide)) D29_13 (by decide)).trans ?_
    exact Q_callv (as := [.int (2 : Int32)]) (b := 1) (rest := []) zm_29 (Or.inl (by decide)) D29_14 zc_4_78 rfl zk_1.1 (by decide) (by decide +kernel) (by decide) (by simp [zcat, Value.category]) zm_23 rfl

theorem b29_41 {d : Nat} {r1 : Nat} {ia : Nat → Nat → Int32} {la : Nat → Nat → Int64} {pl dr : Nat} {cp : Option Nat} {cw : Option Nat} {rp : Nat} {K : Option Value → zHP → Prop}  : zWP (d + 1) 29 41 [some (.ref 1), some (.ref r1)] [] (ia, la, zRA pl dr cp cw (some rp)) K = zWM d 27 [.ref 1, .int (-2 : Int32)] (ia, la, zRA pl dr cp cw (some rp)) (zK (d + 1) 29 49 [some (.ref 1), some (.ref r1)] [.int (0 : Int32), .ref r1] K) := by
  refine (Q_aload_n zm_29 (Or.inl (by decide)) D29_41 rfl).trans ?_
  refine (Q_iconst (v := 0) zm_29 (Or.inl (by decide)) D29_42 (by decide)).trans ?_
  refine (Q_aload_n zm_29 (Or.inl (by decide)) D29_43 rfl).trans ?_
  refine (Q_bipush (v := -2) zm_29 (Or.inl (by decide)) D29_44 (by decide)).trans ?_
  exact Q_callv (as := [.int (-2 : Int32)]) (b := 1) (rest := [.int (0 : Int32), .ref r1]) zm_29 (Or.inl (by decide)) D29_46 zc_4_115 rfl zk_1.1 (by decide) (by decide +kernel) (by decide) (by simp [zcat, Value.category]) zm_27 rfl

theorem b29_17 {d : Nat}  {ia : Nat → Nat → Int32} {la : Nat → Nat → Int64} {pl dr : Nat} {cp : Option Nat} {cw : Option Nat} {rp : Nat} {K : Option Value → zHP → Prop}  : zWP d 29 17 [some (.ref 1), none] [] (ia, la, zRA pl dr cp cw (some rp)) K = K none (ia, la, zRA pl dr cp cw (some rp)) := by
  exact Q_return zm_29 (Or.inl (by decide)) D29_17 rfl

theorem b29_49 {d : Nat} {r1 : Nat} {q0 : Nat} {s1 : Int32} {s2 : Int32} {ia : Nat → Nat → Int32} {la : Nat → Nat → Int64} {pl dr : Nat} {cp : Option Nat} {cw : Option Nat} {rp : Nat} {K : Option Value → zHP → Prop}  : zWP (d + 1) 29 49 [some (.ref 1), some (.ref r1)] [.int s2, .int s1, .ref q0] (ia, la, zRA pl dr cp cw (some rp)) K = ((zkd q0 = 100 ∧ vp_in s1 (zln q0)) ∧ ((zkd r1 = 100 ∧ vp_in (0 : Int32) (zln r1)) ∧ zWM d 27 [.ref 1, .int ((zu ia q0 (s1).toNatClampNeg s2) r1 0)] ((zu ia q0 (s1).toNatClampNeg s2), la, zRA pl dr cp cw (some rp)) (zK (d + 1) 29 59 [some (.ref 1), some (.ref r1)] [.int (1 : Int32), .ref r1] K))) := by
  refine (Q_iastoreV zm_29 (Or.inl (by decide)) D29_49).trans ?_
  refine zand_c (fun h0_ => ?_)
  refine (Q_aload_n zm_29 (Or.inl (by decide)) D29_50 rfl).trans ?_
  refine (Q_iconst (v := 1) zm_29 (Or.inl (by decide)) D29_51 (by decide)).trans ?_
  refine (Q_aload_n zm_29 (Or.inl (by decide)) D29_52 rfl).trans ?_
  refine (Q_aload_n zm_29 (Or.inl (by decide)) D29_53 rfl).trans ?_
  refine (Q_iconst (v := 0) zm_29 (Or.inl (by decide)) D29_54 (by decide)).trans ?_
  refine (Q_ialoadV zm_29 (Or.inl (by decide)) D29_55 (by decide)).trans ?_
  refine zand_c (fun h1_ => ?_)
  exact Q_callv (as := [.int ((zu ia q0 (s1).toNatClampNeg s2) r1 0)]) (b := 1) (rest := [.int (1 : Int32), .ref r1]) zm_29 (Or.inl (by decide)) D29_56 zc_4_115 rfl zk_1.1 (by decide) (by decide +kernel) (by decide) (by simp [zcat, Value.category]) zm_27 rfl

theorem b29_59 {d : Nat} {r1 : Nat} {q0 : Nat} {s1 : Int32} {s2 : Int32} {ia : Nat → Nat → Int32} {la : Nat → Nat → Int64} {pl dr : Nat} {cp : Option Nat} {cw : Option Nat} {rp : Nat} {K : Option Value → zHP → Prop}  : zWP (d + 1) 29 59 [some (.ref 1), some (.ref r1)] [.int s2, .int s1, .ref q0] (ia, la, zRA pl dr cp cw (some rp)) K = ((zkd q0 = 100 ∧ vp_in s1 (zln q0)) ∧ zWM d 25 [.ref 1, .int (0 : Int32), .int (99 : Int32)] ((zu ia q0 (s1).toNatClampNeg s2), la, zRA pl dr cp cw (some rp)) (zK (d + 1) 29 69 [some (.ref 1), some (.ref r1)] [.int (2 : Int32), .ref r1] K)) := by
  refine (Q_iastoreV zm_29 (Or.inl (by decide)) D29_59).trans ?_
  refine zand_c (fun h0_ => ?_)
  refine (Q_aload_n zm_29 (Or.inl (by decide)) D29_60 rfl).trans ?_
  refine (Q_iconst (v := 2) zm_29 (Or.inl (by decide)) D29_61 (by decide)).trans ?_
  refine (Q_aload_n zm_29 (Or.inl (by decide)) D29_62 rfl).trans ?_
  refine (Q_iconst (v := 0) zm_29 (Or.inl (by decide)) D29_63 (by decide)).trans ?_
  refine (Q_bipush (v := 99) zm_29 (Or.inl (by decide)) D29_64 (by decide)).trans ?_
  exact Q_callv (as := [.int (0 : Int32), .int (99 : Int32)]) (b := 1) (rest := [.int (2 : Int32), .ref r1]) zm_29 (Or.inl (by decide)) D29_66 zc_4_101 rfl zk_1.1 (by decide) (by decide +kernel) (by decide) (by simp [zcat, Value.category]) zm_25 rfl

theorem b29_69 {d : Nat} {r1 : Nat} {q0 : Nat} {s1 : Int32} {s2 : Int32} {ia : Nat → Nat → Int32} {la : Nat → Nat → Int64} {pl dr : Nat} {cp : Option Nat} {cw : Option Nat} {rp : Nat} {K : Option Value → zHP → Prop}  : zWP (d + 1) 29 69 [some (.ref 1), some (.ref r1)] [.int s2, .int s1, .ref q0] (ia, la, zRA pl dr cp cw (some rp)) K = ((zkd q0 = 100 ∧ vp_in s1 (zln q0)) ∧ zWM d 25 [.ref 1, .int (1 : Int32), .int (99 : Int32)] ((zu ia q0 (s1).toNatClampNeg s2), la, zRA pl dr cp cw (some rp)) (zK (d + 1) 29 79 [some (.ref 1), some (.ref r1)] [.int (3 : Int32), .ref r1] K)) := by
  refine (Q_iastoreV zm_29 (Or.inl (by decide)) D29_69).trans ?_
  refine zand_c (fun h0_ => ?_)
  refine (Q_aload_n zm_29 (Or.inl (by decide)) D29_70 rfl).trans ?_
  refine (Q_iconst (v := 3) zm_29 (Or.inl (by decide)) D29_71 (by decide)).trans ?_
  refine (Q_aload_n zm_29 (Or.inl (by decide)) D29_72 rfl).trans ?_
  refine (Q_iconst (v := 1) zm_29 (Or.inl (by decide)) D29_73 (by decide)).trans ?_
  refine (Q_bipush (v := 99) zm_29 (Or.inl (by decide)) D29_74 (by decide)).trans ?_
  exact Q_callv (as := [.int (1 : Int32), .int (99 : Int32)]) (b := 1) (rest := [.int (3 : Int32), .ref r1]) zm_29 (Or.inl (by decide)) D29_76 zc_4_101 rfl zk_1.1 (by decide) (by decide +kernel) (by decide) (by simp [zcat, Value.category]) zm_25 rfl

theorem b29_79 {d : Nat} {r1 : Nat} {q0 : Nat} {s1 : Int32} {s2 : Int32} {ia : Nat → Nat → Int32} {la : Nat → Nat → Int64} {pl dr : Nat} {cp : Option Nat} {cw : Option Nat} {rp : Nat} {K : Option Value → zHP → Prop}  : zWP (d + 1) 29 79 [some (.ref 1), some (.ref r1)] [.int s2, .int s1, .ref q0] (ia, la, zRA pl dr cp cw (some rp)) K = ((zkd q0 = 100 ∧ vp_in s1 (zln q0)) ∧ zWM d 25 [.ref 1, .int (0 : Int32), .int (99 : Int32)] ((zu ia q0 (s1).toNatClampNeg s2), la, zRA pl dr cp cw (some rp)) (zK (d + 1) 29 89 [some (.ref 1), some (.ref r1)] [.int (4 : Int32), .ref r1] K)) := by
  refine (Q_iastoreV zm_29 (Or.inl (by decide)) D29_79).trans ?_
  refine zand_c (fun h0_ => ?_)
  refine (Q_aload_n zm_29 (Or.inl (by decide)) D29_80 rfl).trans ?_
  refine (Q_iconst (v := 4) zm_29 (Or.inl (by decide)) D29_81 (by decide)).trans ?_
  refine (Q_aload_n zm_29 (Or.inl (by decide)) D29_82 rfl).trans ?_
  refine (Q_iconst (v := 0) zm_29 (Or.inl (by decide)) D29_83 (by decide)).trans ?_
  refine (Q_bipush (v := 99) zm_29 (Or.inl (by decide)) D29_84 (by decide)).trans ?_
  exact Q_callv (as := [.int (0 : Int32), .int (99 : Int32)]) (b := 1) (rest := [.int (4 : Int32), .ref r1]) zm_29 (Or.inl (by decide)) D29_86 zc_4_101 rfl zk_1.1 (by decide) (by decide +kernel) (by decide) (by simp [zcat, Value.category]) zm_25 rfl

theorem b29_89 {d : Nat} {r1 : Nat} {q0 : Nat} {s1 : Int32} {s2 : Int32} {ia : Nat → Nat → Int32} {la : Nat → Nat → Int64} {pl dr : Nat} {cp : Option Nat} {cw : Option Nat} {rp : Nat} {K : Option Value → zHP → Prop} (hrp : zIsP rp) : zWP d 29 89 [some (.ref 1), some (.ref r1)] [.int s2, .int s1, .ref q0] (ia, la, zRA pl dr cp cw (some rp)) K = ((zkd q0 = 100 ∧ vp_in s1 (zln q0)) ∧ K none ((zu (zu ia q0 (s1).toNatClampNeg s2) rp 2 (((zu ia q0 (s1).toNatClampNeg s2) rp 2) + (1 : Int32))), la, zRA pl dr cp cw (some rp))) := by
  refine (Q_iastoreV zm_29 (Or.inl (by decide)) D29_89).trans ?_
  refine zand_c (fun h0_ => ?_)
  refine (Q_aload_n zm_29 (Or.inl (by decide)) D29_90 rfl).trans ?_
  refine (Q_getR (q := rp) zm_29 (Or.inl (by decide)) D29_91 zf_4_26 zs_4_1 zk_1.1 rfl).trans ?_
  refine (Q_dup zm_29 (Or.inl (by decide)) D29_94 rfl).trans ?_
  refine (Q_getI zm_29 (Or.inl (by decide)) D29_95 zf_4_108 (Or.inl zs_3_2) (zkp_0 hrp).1).trans ?_
  refine (Q_iconst (v := 1) zm_29 (Or.inl (by decide)) D29_98 (by decide)).trans ?_
  refine (Q_iadd zm_29 (Or.inl (by decide)) D29_99).trans ?_
  refine (Q_putI zm_29 (Or.inl (by decide)) D29_100 zf_4_108 zs_3_2 rfl (zkp_0 hrp).1).trans ?_
  exact Q_return zm_29 (Or.inl (by decide)) D29_103 rfl

/-! HandsLet$Reader.readLetter()V -/
theorem D30_0 : decode prog_6_method_10_code 0 = .ok (.aload_n 0, 1) := by decide +kernel
theorem D30_1 : decode prog_6_method_10_code 1 = .ok (.getfield 26, 3) := by decide +kernel
theorem D30_4 : decode prog_6_method_10_code 4 = .ok (.getfield 118, 3) := by decide +kernel
theorem D30_7 : decode prog_6_method_10_code 7 = .ok (.bipush 12, 2) := by decide +kernel
theorem D30_9 : decode prog_6_method_10_code 9 = .ok (.if_icmp .lt 9, 3) := by decide +kernel
theorem D30_12 : decode prog_6_method_10_code 12 = .ok (.aload_n 0, 1) := by decide +kernel
theorem D30_13 : decode prog_6_method_10_code 13 = .ok (.iconst 2, 1) := by decide +kernel
theorem D30_14 : decode prog_6_method_10_code 14 = .ok (.invokevirtual 78, 3) := by decide +kernel
theorem D30_17 : decode prog_6_method_10_code 17 = .ok (.return_, 1) := by decide +kernel
theorem D30_18 : decode prog_6_method_10_code 18 = .ok (.aload_n 0, 1) := by decide +kernel
theorem D30_19 : decode prog_6_method_10_code 19 = .ok (.getfield 26, 3) := by decide +kernel
theorem D30_22 : decode prog_6_method_10_code 22 = .ok (.getfield 121, 3) := by decide +kernel
theorem D30_25 : decode prog_6_method_10_code 25 = .ok (.aload_n 0, 1) := by decide +kernel
theorem D30_26 : decode prog_6_method_10_code 26 = .ok (.getfield 26, 3) := by decide +kernel
theorem D30_29 : decode prog_6_method_10_code 29 = .ok (.getfield 118, 3) := by decide +kernel
theorem D30_32 : decode prog_6_method_10_code 32 = .ok (.aaload, 1) := by decide +kernel
theorem D30_33 : decode prog_6_method_10_code 33 = .ok (.astore_n 1, 1) := by decide +kernel
theorem D30_34 : decode prog_6_method_10_code 34 = .ok (.aload_n 0, 1) := by decide +kernel
theorem D30_35 : decode prog_6_method_10_code 35 = .ok (.getfield 12, 3) := by decide +kernel
theorem D30_38 : decode prog_6_method_10_code 38 = .ok (.invokevirtual 75, 3) := by decide +kernel
theorem D30_41 : decode prog_6_method_10_code 41 = .ok (.aload_n 1, 1) := by decide +kernel
theorem D30_42 : decode prog_6_method_10_code 42 = .ok (.iconst 0, 1) := by decide +kernel
theorem D30_43 : decode prog_6_method_10_code 43 = .ok (.aload_n 0, 1) := by decide +kernel
theorem D30_44 : decode prog_6_method_10_code 44 = .ok (.bipush (-2), 2) := by decide +kernel
theorem D30_46 : decode prog_6_method_10_code 46 = .ok (.invokevirtual 115, 3) := by decide +kernel
theorem D30_49 : decode prog_6_method_10_code 49 = .ok (.iastore, 1) := by decide +kernel
theorem D30_50 : decode prog_6_method_10_code 50 = .ok (.aload_n 1, 1) := by decide +kernel
theorem D30_51 : decode prog_6_method_10_code 51 = .ok (.iconst 1, 1) := by decide +kernel
theorem D30_52 : decode prog_6_method_10_code 52 = .ok (.aload_n 0, 1) := by decide +kernel
theorem D30_53 : decode prog_6_method_10_code 53 = .ok (.bipush (-2), 2) := by decide +kernel
theorem D30_55 : decode prog_6_method_10_code 55 = .ok (.invokevirtual 115, 3) := by decide +kernel
theorem D30_58 : decode prog_6_method_10_code 58 = .ok (.iastore, 1) := by decide +kernel
theorem D30_59 : decode prog_6_method_10_code 59 = .ok (.aload_n 1, 1) := by decide +kernel
theorem D30_60 : decode prog_6_method_10_code 60 = .ok (.iconst 2, 1) := by decide +kernel
theorem D30_61 : decode prog_6_method_10_code 61 = .ok (.aload_n 0, 1) := by decide +kernel
theorem D30_62 : decode prog_6_method_10_code 62 = .ok (.iconst 0, 1) := by decide +kernel
theorem D30_63 : decode prog_6_method_10_code 63 = .ok (.bipush 99, 2) := by decide +kernel
theorem D30_65 : decode prog_6_method_10_code 65 = .ok (.invokevirtual 101, 3) := by decide +kernel
theorem D30_68 : decode prog_6_method_10_code 68 = .ok (.iastore, 1) := by decide +kernel
theorem D30_69 : decode prog_6_method_10_code 69 = .ok (.aload_n 0, 1) := by decide +kernel
theorem D30_70 : decode prog_6_method_10_code 70 = .ok (.getfield 26, 3) := by decide +kernel
theorem D30_73 : decode prog_6_method_10_code 73 = .ok (.dup, 1) := by decide +kernel
theorem D30_74 : decode prog_6_method_10_code 74 = .ok (.getfield 118, 3) := by decide +kernel
theorem D30_77 : decode prog_6_method_10_code 77 = .ok (.iconst 1, 1) := by decide +kernel
theorem D30_78 : decode prog_6_method_10_code 78 = .ok (.iadd, 1) := by decide +kernel
theorem D30_79 : decode prog_6_method_10_code 79 = .ok (.putfield 118, 3) := by decide +kernel
theorem D30_82 : decode prog_6_method_10_code 82 = .ok (.return_, 1) := by decide +kernel

theorem b30_0 {d : Nat}  {ia : Nat → Nat → Int32} {la : Nat → Nat → Int64} {pl dr : Nat} {cp : Option Nat} {cw : Option Nat} {rp : Nat} {K : Option Value → zHP → Prop} (hrp : zIsP rp) : zWP (d + 1) 30 0 [some (.ref 1), none] [] (ia, la, zRA pl dr cp cw (some rp)) K = (if (ia rp 3) < (12 : Int32) then (vp_in (ia rp 3) 12 ∧ zWM d 59 [.ref 2] (ia, la, zRA pl dr cp cw (some rp)) (zK (d + 1) 30 41 [some (.ref 1), some (.ref (rp + 16 + ((ia rp 3)).toNatClampNeg))] [] K)) else zWM d 23 [.ref 1, .int (2 : Int32)] (ia, la, zRA pl dr cp cw (some rp)) (zK (d + 1) 30 17 [some (.ref 1), none] [] K)) := by
  refine (Q_aload_n zm_30 (Or.inl (by decide)) D30_0 rfl).trans ?_
  refine (Q_getR (q := rp) zm_30 (Or.inl (by decide)) D30_1 zf_4_26 zs_4_1 zk_1.1 rfl).trans ?_
  refine (Q_getI zm_30 (Or.inl (by decide)) D30_4 zf_4_118 (Or.inl zs_3_3) (zkp_0 hrp).1).trans ?_
  refine (Q_bipush (v := 12) zm_30 (Or.inl (by decide)) D30_7 (by decide)).trans ?_
  refine (Q_ic_lt (tgt := 18) zm_30 (Or.inl (by decide)) D30_9 (by decide)).trans ?_
  refine zif_c (fun h0_ => ?_) (fun h0_ => ?_)
  · refine (Q_aload_n zm_30 (Or.inl (by decide)) D30_18 rfl).trans ?_
    refine (Q_getR (q := rp) zm_30 (Or.inl (by decide)) D30_19 zf_4_26 zs_4_1 zk_1.1 rfl).trans ?_
    refine (Q_getR (q := (rp + 15)) zm_30 (Or.inl (by decide)) D30_22 zf_4_121 zs_3_9 (zkp_0 hrp).1 (zrp_9 hrp)).trans ?_
    refine (Q_aload_n zm_30 (Or.inl (by decide)) D30_25 rfl).trans ?_
    refine (Q_getR (q := rp) zm_30 (Or.inl (by decide)) D30_26 zf_4_26 zs_4_1 zk_1.1 rfl).trans ?_
    refine (Q_getI zm_30 (Or.inl (by decide)) D30_29 zf_4_118 (Or.inl zs_3_3) (zkp_0 hrp).1).trans ?_
    refine (Q_aaload (f := (fun j => rp + 16 + j)) zm_30 (Or.inl (by decide)) D30_32 (zkp_15 hrp).1 (zkp_15 hrp).2 (zrow_t (pl := pl) (dr := dr) (cp := cp) (cw := cw) (rp := (some rp)) hrp)).trans ?_
    refine zand_c (fun h1_ => ?_)
    refine (Q_astore_n (ls' := [some (.ref 1), some (.ref (rp + 16 + ((ia rp 3)).toNatClampNeg))]) zm_30 (Or.inl (by decide)) D30_33 rfl (Nat.le_of_ble_eq_true rfl) rfl).trans ?_
    refine (Q_aload_n zm_30 (Or.inl (by decide)) D30_34 rfl).trans ?_
    refine (Q_getR (q := 2) zm_30 (Or.inl (by decide)) D30_35 zf_4_12 zs_4_0 zk_1.1 rfl).trans ?_
    exact Q_callv (as := []) (b := 2) (rest := []) zm_30 (Or.inl (by decide)) D30_38 zc_4_75 rfl zk_2.1 (by decide) (by decide +kernel) (by decide) (by simp [zcat, Value.category]) zm_59 rfl
  · refine (Q_aload_n zm_30 (Or.inl (by decide)) D30_12 rfl).trans ?_
    refine (Q_iconst (v := 2) zm_30 (Or.inl (by decide)) D30_13 (by decide)).trans ?_
    exact Q_callv (as := [.int (2 : Int32)]) (b := 1) (rest := []) zm_30 (Or.inl (by decide)) D30_14 zc_4_78 rfl zk_1.1 (by decide) (by decide +kernel) (by decide) (by simp [zcat, Value.category]) zm_23 rfl

theorem b30_41 {d : Nat} {r1 : Nat} {ia : Nat → Nat → Int32} {la : Nat → Nat → Int64} {pl dr : Nat} {cp : Option Nat} {cw : Option Nat} {rp : Nat} {K : Option Value → zHP → Prop}  : zWP (d + 1) 30 41 [some (.ref 1), some (.ref r1)] [] (ia, la, zRA pl dr cp cw (some rp)) K = zWM d 27 [.ref 1, .int (-2 : Int32)] (ia, la, zRA pl dr cp cw (some rp)) (zK (d + 1) 30 49 [some (.ref 1), some (.ref r1)] [.int (0 : Int32), .ref r1] K) := by
  refine (Q_aload_n zm_30 (Or.inl (by decide)) D30_41 rfl).trans ?_
  refine (Q_iconst (v := 0) zm_30 (Or.inl (by decide)) D30_42 (by decide)).trans ?_
  refine (Q_aload_n zm_30 (Or.inl (by decide)) D30_43 rfl).trans ?_
  refine (Q_bipush (v := -2) zm_30 (Or.inl (by decide)) D30_44 (by decide)).trans ?_
  exact Q_callv (as := [.int (-2 : Int32)]) (b := 1) (rest := [.int (0 : Int32), .ref r1]) zm_30 (Or.inl (by decide)) D30_46 zc_4_115 rfl zk_1.1 (by decide) (by decide +kernel) (by decide) (by simp [zcat, Value.category]) zm_27 rfl

theorem b30_17 {d : Nat}  {ia : Nat → Nat → Int32} {la : Nat → Nat → Int64} {pl dr : Nat} {cp : Option Nat} {cw : Option Nat} {rp : Nat} {K : Option Value → zHP → Prop}  : zWP d 30 17 [some (.ref 1), none] [] (ia, la, zRA pl dr cp cw (some rp)) K = K none (ia, la, zRA pl dr cp cw (some rp)) := by
  exact Q_return zm_30 (Or.inl (by decide)) D30_17 rfl

theorem b30_49 {d : Nat} {r1 : Nat} {q0 : Nat} {s1 : Int32} {s2 : Int32} {ia : Nat → Nat → Int32} {la : Nat → Nat → Int64} {pl dr : Nat} {cp : Option Nat} {cw : Option Nat} {rp : Nat} {K : Option Value → zHP → Prop}  : zWP (d + 1) 30 49 [some (.ref 1), some (.ref r1)] [.int s2, .int s1, .ref q0] (ia, la, zRA pl dr cp cw (some rp)) K = ((zkd q0 = 100 ∧ vp_in s1 (zln q0)) ∧ zWM d 27 [.ref 1, .int (-2 : Int32)] ((zu ia q0 (s1).toNatClampNeg s2), la, zRA pl dr cp cw (some rp)) (zK (d + 1) 30 58 [some (.ref 1), some (.ref r1)] [.int (1 : Int32), .ref r1] K)) := by
  refine (Q_iastoreV zm_30 (Or.inl (by decide)) D30_49).trans ?_
  refine zand_c (fun h0_ => ?_)
  refine (Q_aload_n zm_30 (Or.inl (by decide)) D30_50 rfl).trans ?_
  refine (Q_iconst (v := 1) zm_30 (Or.inl (by decide)) D30_51 (by decide)).trans ?_
  refine (Q_aload_n zm_30 (Or.inl (by decide)) D30_52 rfl).trans ?_
  refine (Q_bipush (v := -2) zm_30 (Or.inl (by decide)) D30_53 (by decide)).trans ?_
  exact Q_callv (as := [.int (-2 : Int32)]) (b := 1) (rest := [.int (1 : Int32), .ref r1]) zm_30 (Or.inl (by decide)) D30_55 zc_4_115 rfl zk_1.1 (by decide) (by decide +kernel) (by decide) (by simp [zcat, Value.category]) zm_27 rfl

theorem b30_58 {d : Nat} {r1 : Nat} {q0 : Nat} {s1 : Int32} {s2 : Int32} {ia : Nat → Nat → Int32} {la : Nat → Nat → Int64} {pl dr : Nat} {cp : Option Nat} {cw : Option Nat} {rp : Nat} {K : Option Value → zHP → Prop}  : zWP (d + 1) 30 58 [some (.ref 1), some (.ref r1)] [.int s2, .int s1, .ref q0] (ia, la, zRA pl dr cp cw (some rp)) K = ((zkd q0 = 100 ∧ vp_in s1 (zln q0)) ∧ zWM d 25 [.ref 1, .int (0 : Int32), .int (99 : Int32)] ((zu ia q0 (s1).toNatClampNeg s2), la, zRA pl dr cp cw (some rp)) (zK (d + 1) 30 68 [some (.ref 1), some (.ref r1)] [.int (2 : Int32), .ref r1] K)) := by
  refine (Q_iastoreV zm_30 (Or.inl (by decide)) D30_58).trans ?_
  refine zand_c (fun h0_ => ?_)
  refine (Q_aload_n zm_30 (Or.inl (by decide)) D30_59 rfl).trans ?_
  refine (Q_iconst (v := 2) zm_30 (Or.inl (by decide)) D30_60 (by decide)).trans ?_
  refine (Q_aload_n zm_30 (Or.inl (by decide)) D30_61 rfl).trans ?_
  refine (Q_iconst (v := 0) zm_30 (Or.inl (by decide)) D30_62 (by decide)).trans ?_
  refine (Q_bipush (v := 99) zm_30 (Or.inl (by decide)) D30_63 (by decide)).trans ?_
  exact Q_callv (as := [.int (0 : Int32), .int (99 : Int32)]) (b := 1) (rest := [.int (2 : Int32), .ref r1]) zm_30 (Or.inl (by decide)) D30_65 zc_4_101 rfl zk_1.1 (by decide) (by decide +kernel) (by decide) (by simp [zcat, Value.category]) zm_25 rfl

theorem b30_68 {d : Nat} {r1 : Nat} {q0 : Nat} {s1 : Int32} {s2 : Int32} {ia : Nat → Nat → Int32} {la : Nat → Nat → Int64} {pl dr : Nat} {cp : Option Nat} {cw : Option Nat} {rp : Nat} {K : Option Value → zHP → Prop} (hrp : zIsP rp) : zWP d 30 68 [some (.ref 1), some (.ref r1)] [.int s2, .int s1, .ref q0] (ia, la, zRA pl dr cp cw (some rp)) K = ((zkd q0 = 100 ∧ vp_in s1 (zln q0)) ∧ K none ((zu (zu ia q0 (s1).toNatClampNeg s2) rp 3 (((zu ia q0 (s1).toNatClampNeg s2) rp 3) + (1 : Int32))), la, zRA pl dr cp cw (some rp))) := by
  refine (Q_iastoreV zm_30 (Or.inl (by decide)) D30_68).trans ?_
  refine zand_c (fun h0_ => ?_)
  refine (Q_aload_n zm_30 (Or.inl (by decide)) D30_69 rfl).trans ?_
  refine (Q_getR (q := rp) zm_30 (Or.inl (by decide)) D30_70 zf_4_26 zs_4_1 zk_1.1 rfl).trans ?_
  refine (Q_dup zm_30 (Or.inl (by decide)) D30_73 rfl).trans ?_
  refine (Q_getI zm_30 (Or.inl (by decide)) D30_74 zf_4_118 (Or.inl zs_3_3) (zkp_0 hrp).1).trans ?_
  refine (Q_iconst (v := 1) zm_30 (Or.inl (by decide)) D30_77 (by decide)).trans ?_
  refine (Q_iadd zm_30 (Or.inl (by decide)) D30_78).trans ?_
  refine (Q_putI zm_30 (Or.inl (by decide)) D30_79 zf_4_118 zs_3_3 rfl (zkp_0 hrp).1).trans ?_
  exact Q_return zm_30 (Or.inl (by decide)) D30_82 rfl

/-! HandsLet$Reader.readSetting()V -/
theorem D31_0 : decode prog_6_method_11_code 0 = .ok (.aload_n 0, 1) := by decide +kernel
theorem D31_1 : decode prog_6_method_11_code 1 = .ok (.getfield 12, 3) := by decide +kernel
theorem D31_4 : decode prog_6_method_11_code 4 = .ok (.getfield 48, 3) := by decide +kernel
theorem D31_7 : decode prog_6_method_11_code 7 = .ok (.bipush 23, 2) := by decide +kernel
theorem D31_9 : decode prog_6_method_11_code 9 = .ok (.isub, 1) := by decide +kernel
theorem D31_10 : decode prog_6_method_11_code 10 = .ok (.istore_n 1, 1) := by decide +kernel
theorem D31_11 : decode prog_6_method_11_code 11 = .ok (.iload_n 1, 1) := by decide +kernel
theorem D31_12 : decode prog_6_method_11_code 12 = .ok (.ifCond .lt 8, 3) := by decide +kernel
theorem D31_15 : decode prog_6_method_11_code 15 = .ok (.iload_n 1, 1) := by decide +kernel
theorem D31_16 : decode prog_6_method_11_code 16 = .ok (.iconst 3, 1) := by decide +kernel
theorem D31_17 : decode prog_6_method_11_code 17 = .ok (.if_icmp .lt 9, 3) := by decide +kernel
theorem D31_20 : decode prog_6_method_11_code 20 = .ok (.aload_n 0, 1) := by decide +kernel
theorem D31_21 : decode prog_6_method_11_code 21 = .ok (.iconst 1, 1) := by decide +kernel
theorem D31_22 : decode prog_6_method_11_code 22 = .ok (.invokevirtual 78, 3) := by decide +kernel
theorem D31_25 : decode prog_6_method_11_code 25 = .ok (.return_, 1) := by decide +kernel
theorem D31_26 : decode prog_6_method_11_code 26 = .ok (.aload_n 0, 1) := by decide +kernel
theorem D31_27 : decode prog_6_method_11_code 27 = .ok (.iload_n 1, 1) := by decide +kernel
theorem D31_28 : decode prog_6_method_11_code 28 = .ok (.invokevirtual 124, 3) := by decide +kernel
theorem D31_31 : decode prog_6_method_11_code 31 = .ok (.aload_n 0, 1) := by decide +kernel
theorem D31_32 : decode prog_6_method_11_code 32 = .ok (.getfield 26, 3) := by decide +kernel
theorem D31_35 : decode prog_6_method_11_code 35 = .ok (.getfield 127, 3) := by decide +kernel
theorem D31_38 : decode prog_6_method_11_code 38 = .ok (.iload_n 1, 1) := by decide +kernel
theorem D31_39 : decode prog_6_method_11_code 39 = .ok (.aload_n 0, 1) := by decide +kernel
theorem D31_40 : decode prog_6_method_11_code 40 = .ok (.iconst 0, 1) := by decide +kernel
theorem D31_41 : decode prog_6_method_11_code 41 = .ok (.iload_n 1, 1) := by decide +kernel
theorem D31_42 : decode prog_6_method_11_code 42 = .ok (.iconst 2, 1) := by decide +kernel
theorem D31_43 : decode prog_6_method_11_code 43 = .ok (.if_icmp .ne 8, 3) := by decide +kernel
theorem D31_46 : decode prog_6_method_11_code 46 = .ok (.ldc 130, 2) := by decide +kernel
theorem D31_48 : decode prog_6_method_11_code 48 = .ok (.goto 5, 3) := by decide +kernel
theorem D31_51 : decode prog_6_method_11_code 51 = .ok (.bipush 100, 2) := by decide +kernel
theorem D31_53 : decode prog_6_method_11_code 53 = .ok (.invokevirtual 101, 3) := by decide +kernel
theorem D31_56 : decode prog_6_method_11_code 56 = .ok (.iastore, 1) := by decide +kernel
theorem D31_57 : decode prog_6_method_11_code 57 = .ok (.return_, 1) := by decide +kernel

theorem b31_0 {d : Nat}  {ia : Nat → Nat → Int32} {la : Nat → Nat → Int64} {pl dr : Nat} {cp : Option Nat} {cw : Option Nat} {rp : Nat} {K : Option Value → zHP → Prop}  : zWP (d + 1) 31 0 [some (.ref 1), none] [] (ia, la, zRA pl dr cp cw (some rp)) K = (if ((ia 2 5) - (23 : Int32)) < 0 then zWM d 23 [.ref 1, .int (1 : Int32)] (ia, la, zRA pl dr cp cw (some rp)) (zK (d + 1) 31 25 [some (.ref 1), some (.int ((ia 2 5) - (23 : Int32)))] [] K) else (if ((ia 2 5) - (23 : Int32)) < (3 : Int32) then zWM d 32 [.ref 1, .int ((ia 2 5) - (23 : Int32))] (ia, la, zRA pl dr cp cw (some rp)) (zK (d + 1) 31 31 [some (.ref 1), some (.int ((ia 2 5) - (23 : Int32)))] [] K) else zWM d 23 [.ref 1, .int (1 : Int32)] (ia, la, zRA pl dr cp cw (some rp)) (zK (d + 1) 31 25 [some (.ref 1), some (.int ((ia 2 5) - (23 : Int32)))] [] K))) := by
  refine (Q_aload_n zm_31 (Or.inl (by decide)) D31_0 rfl).trans ?_
  refine (Q_getR (q := 2) zm_31 (Or.inl (by decide)) D31_1 zf_4_12 zs_4_0 zk_1.1 rfl).trans ?_
  refine (Q_getI zm_31 (Or.inl (by decide)) D31_4 zf_4_48 (Or.inl zs_7_5) zk_2.1).trans ?_
  refine (Q_bipush (v := 23) zm_31 (Or.inl (by decide)) D31_7 (by decide)).trans ?_
  refine (Q_isub zm_31 (Or.inl (by decide)) D31_9).trans ?_
  refine (Q_istore_n (ls' := [some (.ref 1), some (.int ((ia 2 5) - (23 : Int32)))]) zm_31 (Or.inl (by decide)) D31_10 rfl (Nat.le_of_ble_eq_true rfl) rfl).trans ?_
  refine (Q_iload_n zm_31 (Or.inl (by decide)) D31_11 rfl).trans ?_
  refine (Q_if_lt (tgt := 20) zm_31 (Or.inl (by decide)) D31_12 (by decide)).trans ?_
  refine zif_c (fun h0_ => ?_) (fun h0_ => ?_)
  · refine (Q_aload_n zm_31 (Or.inl (by decide)) D31_20 rfl).trans ?_
    refine (Q_iconst (v := 1) zm_31 (Or.inl (by decide)) D31_21 (by decide)).trans ?_
    exact Q_callv (as := [.int (1 : Int32)]) (b := 1) (rest := []) zm_31 (Or.inl (by decide)) D31_22 zc_4_78 rfl zk_1.1 (by decide) (by decide +kernel) (by decide) (by simp [zcat, Value.category]) zm_23 rfl
  · refine (Q_iload_n zm_31 (Or.inl (by decide)) D31_15 rfl).trans ?_
    refine (Q_iconst (v := 3) zm_31 (Or.inl (by decide)) D31_16 (by decide)).trans ?_
    refine (Q_ic_lt (tgt := 26) zm_31 (Or.inl (by decide)) D31_17 (by decide)).trans ?_
    refine zif_c (fun h1_ => ?_) (fun h1_ => ?_)
    · refine (Q_aload_n zm_31 (Or.inl (by decide)) D31_26 rfl).trans ?_
      refine (Q_iload_n zm_31 (Or.inl (by decide)) D31_27 rfl).trans ?_
      exact Q_callv (as := [.int ((ia 2 5) - (23 : Int32))]) (b := 1) (rest := []) zm_31 (Or.inl (by decide)) D31_28 zc_4_124 rfl zk_1.1 (by decide) (by decide +kernel) (by decide) (by simp [zcat, Value.category]) zm_32 rfl
    · refine (Q_aload_n zm_31 (Or.inl (by decide)) D31_20 rfl).trans ?_
      refine (Q_iconst (v := 1) zm_31 (Or.inl (by decide)) D31_21 (by decide)).trans ?_
      exact Q_callv (as := [.int (1 : Int32)]) (b := 1) (rest := []) zm_31 (Or.inl (by decide)) D31_22 zc_4_78 rfl zk_1.1 (by decide) (by decide +kernel) (by decide) (by simp [zcat, Value.category]) zm_23 rfl

theorem b31_25 {d : Nat} {i1 : Int32} {ia : Nat → Nat → Int32} {la : Nat → Nat → Int64} {pl dr : Nat} {cp : Option Nat} {cw : Option Nat} {rp : Nat} {K : Option Value → zHP → Prop}  : zWP d 31 25 [some (.ref 1), some (.int i1)] [] (ia, la, zRA pl dr cp cw (some rp)) K = K none (ia, la, zRA pl dr cp cw (some rp)) := by
  exact Q_return zm_31 (Or.inl (by decide)) D31_25 rfl

theorem b31_31 {d : Nat} {i1 : Int32} {ia : Nat → Nat → Int32} {la : Nat → Nat → Int64} {pl dr : Nat} {cp : Option Nat} {cw : Option Nat} {rp : Nat} {K : Option Value → zHP → Prop} (hrp : zIsP rp) : zWP (d + 1) 31 31 [some (.ref 1), some (.int i1)] [] (ia, la, zRA pl dr cp cw (some rp)) K = (if ¬ i1 = (2 : Int32) then zWM d 25 [.ref 1, .int (0 : Int32), .int (100 : Int32)] (ia, la, zRA pl dr cp cw (some rp)) (zK (d + 1) 31 56 [some (.ref 1), some (.int i1)] [.int i1, .ref (rp + 28)] K) else zWM d 25 [.ref 1, .int (0 : Int32), .int (99999 : Int32)] (ia, la, zRA pl dr cp cw (some rp)) (zK (d + 1) 31 56 [some (.ref 1), some (.int i1)] [.int i1, .ref (rp + 28)] K)) := by
  refine (Q_aload_n zm_31 (Or.inl (by decide)) D31_31 rfl).trans ?_
  refine (Q_getR (q := rp) zm_31 (Or.inl (by decide)) D31_32 zf_4_26 zs_4_1 zk_1.1 rfl).trans ?_
  refine (Q_getR (q := (rp + 28)) zm_31 (Or.inl (by decide)) D31_35 zf_4_127 zs_3_10 (zkp_0 hrp).1 (zrp_10 hrp)).trans ?_
  refine (Q_iload_n zm_31 (Or.inl (by decide)) D31_38 rfl).trans ?_
  refine (Q_aload_n zm_31 (Or.inl (by decide)) D31_39 rfl).trans ?_
  refine (Q_iconst (v := 0) zm_31 (Or.inl (by decide)) D31_40 (by decide)).trans ?_
  refine (Q_iload_n zm_31 (Or.inl (by decide)) D31_41 rfl).trans ?_
  refine (Q_iconst (v := 2) zm_31 (Or.inl (by decide)) D31_42 (by decide)).trans ?_
  refine (Q_ic_ne (tgt := 51) zm_31 (Or.inl (by decide)) D31_43 (by decide)).trans ?_
  refine zif_c (fun h0_ => ?_) (fun h0_ => ?_)
  · refine (Q_bipush (v := 100) zm_31 (Or.inl (by decide)) D31_51 (by decide)).trans ?_
    exact Q_callv (as := [.int (0 : Int32), .int (100 : Int32)]) (b := 1) (rest := [.int i1, .ref (rp + 28)]) zm_31 (Or.inl (by decide)) D31_53 zc_4_101 rfl zk_1.1 (by decide) (by decide +kernel) (by decide) (by simp [zcat, Value.category]) zm_25 rfl
  · refine (Q_ldc (v := 99999) zm_31 (Or.inl (by decide)) D31_46 (by decide +kernel)).trans ?_
    refine (Q_goto (tgt := 53) zm_31 (Or.inl (by decide)) D31_48 (by decide)).trans ?_
    exact Q_callv (as := [.int (0 : Int32), .int (99999 : Int32)]) (b := 1) (rest := [.int i1, .ref (rp + 28)]) zm_31 (Or.inl (by decide)) D31_53 zc_4_101 rfl zk_1.1 (by decide) (by decide +kernel) (by decide) (by simp [zcat, Value.category]) zm_25 rfl

theorem b31_56 {d : Nat} {i1 : Int32} {s1 : Int32} {s2 : Int32} {ia : Nat → Nat → Int32} {la : Nat → Nat → Int64} {pl dr : Nat} {cp : Option Nat} {cw : Option Nat} {rp : Nat} {K : Option Value → zHP → Prop} (hrp : zIsP rp) : zWP d 31 56 [some (.ref 1), some (.int i1)] [.int s2, .int s1, .ref (rp + 28)] (ia, la, zRA pl dr cp cw (some rp)) K = (vp_in s1 3 ∧ K none ((zu ia (rp + 28) (s1).toNatClampNeg s2), la, zRA pl dr cp cw (some rp))) := by
  refine (Q_iastore zm_31 (Or.inl (by decide)) D31_56 (zkp_28 hrp).1 (zkp_28 hrp).2).trans ?_
  refine zand_c (fun h0_ => ?_)
  exact Q_return zm_31 (Or.inl (by decide)) D31_57 rfl

/-! HandsLet$Reader.tellOnce(I)V -/
theorem D32_0 : decode prog_6_method_12_code 0 = .ok (.aload_n 0, 1) := by decide +kernel
theorem D32_1 : decode prog_6_method_12_code 1 = .ok (.getfield 35, 3) := by decide +kernel
theorem D32_4 : decode prog_6_method_12_code 4 = .ok (.iload_n 1, 1) := by decide +kernel
theorem D32_5 : decode prog_6_method_12_code 5 = .ok (.ishr, 1) := by decide +kernel
theorem D32_6 : decode prog_6_method_12_code 6 = .ok (.iconst 1, 1) := by decide +kernel
theorem D32_7 : decode prog_6_method_12_code 7 = .ok (.iand, 1) := by decide +kernel
theorem D32_8 : decode prog_6_method_12_code 8 = .ok (.ifCond .eq 9, 3) := by decide +kernel
theorem D32_11 : decode prog_6_method_12_code 11 = .ok (.aload_n 0, 1) := by decide +kernel
theorem D32_12 : decode prog_6_method_12_code 12 = .ok (.iconst 3, 1) := by decide +kernel
theorem D32_13 : decode prog_6_method_12_code 13 = .ok (.invokevirtual 78, 3) := by decide +kernel
theorem D32_16 : decode prog_6_method_12_code 16 = .ok (.return_, 1) := by decide +kernel
theorem D32_17 : decode prog_6_method_12_code 17 = .ok (.aload_n 0, 1) := by decide +kernel
theorem D32_18 : decode prog_6_method_12_code 18 = .ok (.dup, 1) := by decide +kernel
theorem D32_19 : decode prog_6_method_12_code 19 = .ok (.getfield 35, 3) := by decide +kernel
theorem D32_22 : decode prog_6_method_12_code 22 = .ok (.iconst 1, 1) := by decide +kernel
theorem D32_23 : decode prog_6_method_12_code 23 = .ok (.iload_n 1, 1) := by decide +kernel
theorem D32_24 : decode prog_6_method_12_code 24 = .ok (.ishl, 1) := by decide +kernel
theorem D32_25 : decode prog_6_method_12_code 25 = .ok (.ior, 1) := by decide +kernel
theorem D32_26 : decode prog_6_method_12_code 26 = .ok (.putfield 35, 3) := by decide +kernel
theorem D32_29 : decode prog_6_method_12_code 29 = .ok (.aload_n 0, 1) := by decide +kernel
theorem D32_30 : decode prog_6_method_12_code 30 = .ok (.getfield 12, 3) := by decide +kernel
theorem D32_33 : decode prog_6_method_12_code 33 = .ok (.invokevirtual 75, 3) := by decide +kernel
theorem D32_36 : decode prog_6_method_12_code 36 = .ok (.return_, 1) := by decide +kernel

theorem b32_0 {d : Nat} {i1 : Int32} {ia : Nat → Nat → Int32} {la : Nat → Nat → Int64} {pl dr : Nat} {cp : Option Nat} {cw : Option Nat} {rp : Nat} {K : Option Value → zHP → Prop}  : zWP (d + 1) 32 0 [some (.ref 1), some (.int i1)] [] (ia, la, zRA pl dr cp cw (some rp)) K = (if (((ia 1 2) >>> (i1 &&& 31)) &&& (1 : Int32)) = 0 then zWM d 59 [.ref 2] ((zu ia 1 2 ((ia 1 2) ||| ((1 : Int32) <<< (i1 &&& 31)))), la, zRA pl dr cp cw (some rp)) (zK (d + 1) 32 36 [some (.ref 1), some (.int i1)] [] K) else zWM d 23 [.ref 1, .int (3 : Int32)] (ia, la, zRA pl dr cp cw (some rp)) (zK (d + 1) 32 16 [some (.ref 1), some (.int i1)] [] K)) := by
  refine (Q_aload_n zm_32 (Or.inl (by decide)) D32_0 rfl).trans ?_
  refine (Q_getI zm_32 (Or.inl (by decide)) D32_1 zf_4_35 (Or.inl zs_4_2) zk_1.1).trans ?_
  refine (Q_iload_n zm_32 (Or.inl (by decide)) D32_4 rfl).trans ?_
  refine (Q_ishr zm_32 (Or.inl (by decide)) D32_5).trans ?_
  refine (Q_iconst (v := 1) zm_32 (Or.inl (by decide)) D32_6 (by decide)).trans ?_
  refine (Q_iand zm_32 (Or.inl (by decide)) D32_7).trans ?_
  refine (Q_if_eq (tgt := 17) zm_32 (Or.inl (by decide)) D32_8 (by decide)).trans ?_
  refine zif_c (fun h0_ => ?_) (fun h0_ => ?_)
  · refine (Q_aload_n zm_32 (Or.inl (by decide)) D32_17 rfl).trans ?_
    refine (Q_dup zm_32 (Or.inl (by decide)) D32_18 rfl).trans ?_
    refine (Q_getI zm_32 (Or.inl (by decide)) D32_19 zf_4_35 (Or.inl zs_4_2) zk_1.1).trans ?_
    refine (Q_iconst (v := 1) zm_32 (Or.inl (by decide)) D32_22 (by decide)).trans ?_
    refine (Q_iload_n zm_32 (Or.inl (by decide)) D32_23 rfl).trans ?_
    refine (Q_ishl zm_32 (Or.inl (by decide)) D32_24).trans ?_
    refine (Q_ior zm_32 (Or.inl (by decide)) D32_25).trans ?_
    refine (Q_putI zm_32 (Or.inl (by decide)) D32_26 zf_4_35 zs_4_2 rfl zk_1.1).trans ?_
    refine (Q_aload_n zm_32 (Or.inl (by decide)) D32_29 rfl).trans ?_
    refine (Q_getR (q := 2) zm_32 (Or.inl (by decide)) D32_30 zf_4_12 zs_4_0 zk_1.1 rfl).trans ?_
    exact Q_callv (as := []) (b := 2) (rest := []) zm_32 (Or.inl (by decide)) D32_33 zc_4_75 rfl zk_2.1 (by decide) (by decide +kernel) (by decide) (by simp [zcat, Value.category]) zm_59 rfl
  · refine (Q_aload_n zm_32 (Or.inl (by decide)) D32_11 rfl).trans ?_
    refine (Q_iconst (v := 3) zm_32 (Or.inl (by decide)) D32_12 (by decide)).trans ?_
    exact Q_callv (as := [.int (3 : Int32)]) (b := 1) (rest := []) zm_32 (Or.inl (by decide)) D32_13 zc_4_78 rfl zk_1.1 (by decide) (by decide +kernel) (by decide) (by simp [zcat, Value.category]) zm_23 rfl

theorem b32_36 {d : Nat} {i1 : Int32} {ia : Nat → Nat → Int32} {la : Nat → Nat → Int64} {pl dr : Nat} {cp : Option Nat} {cw : Option Nat} {rp : Nat} {K : Option Value → zHP → Prop}  : zWP d 32 36 [some (.ref 1), some (.int i1)] [] (ia, la, zRA pl dr cp cw (some rp)) K = K none (ia, la, zRA pl dr cp cw (some rp)) := by
  exact Q_return zm_32 (Or.inl (by decide)) D32_36 rfl

theorem b32_16 {d : Nat} {i1 : Int32} {ia : Nat → Nat → Int32} {la : Nat → Nat → Int64} {pl dr : Nat} {cp : Option Nat} {cw : Option Nat} {rp : Nat} {K : Option Value → zHP → Prop}  : zWP d 32 16 [some (.ref 1), some (.int i1)] [] (ia, la, zRA pl dr cp cw (some rp)) K = K none (ia, la, zRA pl dr cp cw (some rp)) := by
  exact Q_return zm_32 (Or.inl (by decide)) D32_16 rfl

/-! HandsLet$Reader.readLaw()V -/
theorem D33_0 : decode prog_6_method_13_code 0 = .ok (.aload_n 0, 1) := by decide +kernel
theorem D33_1 : decode prog_6_method_13_code 1 = .ok (.getfield 12, 3) := by decide +kernel
theorem D33_4 : decode prog_6_method_13_code 4 = .ok (.invokevirtual 75, 3) := by decide +kernel
theorem D33_7 : decode prog_6_method_13_code 7 = .ok (.aload_n 0, 1) := by decide +kernel
theorem D33_8 : decode prog_6_method_13_code 8 = .ok (.getfield 12, 3) := by decide +kernel
theorem D33_11 : decode prog_6_method_13_code 11 = .ok (.getfield 48, 3) := by decide +kernel
theorem D33_14 : decode prog_6_method_13_code 14 = .ok (.bipush 27, 2) := by decide +kernel
theorem D33_16 : decode prog_6_method_13_code 16 = .ok (.isub, 1) := by decide +kernel
theorem D33_17 : decode prog_6_method_13_code 17 = .ok (.istore_n 1, 1) := by decide +kernel
theorem D33_18 : decode prog_6_method_13_code 18 = .ok (.iload_n 1, 1) := by decide +kernel
theorem D33_19 : decode prog_6_method_13_code 19 = .ok (.ifCond .lt 8, 3) := by decide +kernel
theorem D33_22 : decode prog_6_method_13_code 22 = .ok (.iload_n 1, 1) := by decide +kernel
theorem D33_23 : decode prog_6_method_13_code 23 = .ok (.iconst 3, 1) := by decide +kernel
theorem D33_24 : decode prog_6_method_13_code 24 = .ok (.if_icmp .lt 9, 3) := by decide +kernel
theorem D33_27 : decode prog_6_method_13_code 27 = .ok (.aload_n 0, 1) := by decide +kernel
theorem D33_28 : decode prog_6_method_13_code 28 = .ok (.iconst 1, 1) := by decide +kernel
theorem D33_29 : decode prog_6_method_13_code 29 = .ok (.invokevirtual 78, 3) := by decide +kernel
theorem D33_32 : decode prog_6_method_13_code 32 = .ok (.return_, 1) := by decide +kernel
theorem D33_33 : decode prog_6_method_13_code 33 = .ok (.aload_n 0, 1) := by decide +kernel
theorem D33_34 : decode prog_6_method_13_code 34 = .ok (.iconst 3, 1) := by decide +kernel
theorem D33_35 : decode prog_6_method_13_code 35 = .ok (.iload_n 1, 1) := by decide +kernel
theorem D33_36 : decode prog_6_method_13_code 36 = .ok (.iadd, 1) := by decide +kernel
theorem D33_37 : decode prog_6_method_13_code 37 = .ok (.invokevirtual 124, 3) := by decide +kernel
theorem D33_40 : decode prog_6_method_13_code 40 = .ok (.aload_n 0, 1) := by decide +kernel
theorem D33_41 : decode prog_6_method_13_code 41 = .ok (.getfield 26, 3) := by decide +kernel
theorem D33_44 : decode prog_6_method_13_code 44 = .ok (.getfield 131, 3) := by decide +kernel
theorem D33_47 : decode prog_6_method_13_code 47 = .ok (.iload_n 1, 1) := by decide +kernel
theorem D33_48 : decode prog_6_method_13_code 48 = .ok (.aload_n 0, 1) := by decide +kernel
theorem D33_49 : decode prog_6_method_13_code 49 = .ok (.getfield 38, 3) := by decide +kernel
theorem D33_52 : decode prog_6_method_13_code 52 = .ok (.iastore, 1) := by decide +kernel
theorem D33_53 : decode prog_6_method_13_code 53 = .ok (.aload_n 0, 1) := by decide +kernel
theorem D33_54 : decode prog_6_method_13_code 54 = .ok (.iconst 0, 1) := by decide +kernel
theorem D33_55 : decode prog_6_method_13_code 55 = .ok (.putfield 134, 3) := by decide +kernel
theorem D33_58 : decode prog_6_method_13_code 58 = .ok (.aload_n 0, 1) := by decide +kernel
theorem D33_59 : decode prog_6_method_13_code 59 = .ok (.iconst 0, 1) := by decide +kernel
theorem D33_60 : decode prog_6_method_13_code 60 = .ok (.putfield 137, 3) := by decide +kernel
theorem D33_63 : decode prog_6_method_13_code 63 = .ok (.iconst 1, 1) := by decide +kernel
theorem D33_64 : decode prog_6_method_13_code 64 = .ok (.istore_n 2, 1) := by decide +kernel
theorem D33_65 : decode prog_6_method_13_code 65 = .ok (.iconst 0, 1) := by decide +kernel
theorem D33_66 : decode prog_6_method_13_code 66 = .ok (.istore_n 3, 1) := by decide +kernel
theorem D33_67 : decode prog_6_method_13_code 67 = .ok (.iload_n 3, 1) := by decide +kernel
theorem D33_68 : decode prog_6_method_13_code 68 = .ok (.sipush 700, 3) := by decide +kernel
theorem D33_71 : decode prog_6_method_13_code 71 = .ok (.if_icmp .ge 57, 3) := by decide +kernel
theorem D33_74 : decode prog_6_method_13_code 74 = .ok (.aload_n 0, 1) := by decide +kernel
theorem D33_75 : decode prog_6_method_13_code 75 = .ok (.getfield 41, 3) := by decide +kernel
theorem D33_78 : decode prog_6_method_13_code 78 = .ok (.ifCond .ne 50, 3) := by decide +kernel
theorem D33_81 : decode prog_6_method_13_code 81 = .ok (.iload_n 2, 1) := by decide +kernel
theorem D33_82 : decode prog_6_method_13_code 82 = .ok (.ifCond .ne 24, 3) := by decide +kernel
theorem D33_85 : decode prog_6_method_13_code 85 = .ok (.aload_n 0, 1) := by decide +kernel
theorem D33_86 : decode prog_6_method_13_code 86 = .ok (.getfield 137, 3) := by decide +kernel
theorem D33_89 : decode prog_6_method_13_code 89 = .ok (.ifCond .ne 17, 3) := by decide +kernel
theorem D33_92 : decode prog_6_method_13_code 92 = .ok (.aload_n 0, 1) := by decide +kernel
theorem D33_93 : decode prog_6_method_13_code 93 = .ok (.getfield 12, 3) := by decide +kernel
theorem D33_96 : decode prog_6_method_13_code 96 = .ok (.getfield 48, 3) := by decide +kernel
theorem D33_99 : decode prog_6_method_13_code 99 = .ok (.iconst 4, 1) := by decide +kernel
theorem D33_100 : decode prog_6_method_13_code 100 = .ok (.if_icmp .ne 6, 3) := by decide +kernel
theorem D33_103 : decode prog_6_method_13_code 103 = .ok (.goto 25, 3) := by decide +kernel
theorem D33_106 : decode prog_6_method_13_code 106 = .ok (.iload_n 2, 1) := by decide +kernel
theorem D33_107 : decode prog_6_method_13_code 107 = .ok (.ifCond .eq 10, 3) := by decide +kernel
theorem D33_110 : decode prog_6_method_13_code 110 = .ok (.aload_n 0, 1) := by decide +kernel
theorem D33_111 : decode prog_6_method_13_code 111 = .ok (.invokevirtual 140, 3) := by decide +kernel
theorem D33_114 : decode prog_6_method_13_code 114 = .ok (.goto 7, 3) := by decide +kernel
theorem D33_117 : decode prog_6_method_13_code 117 = .ok (.aload_n 0, 1) := by decide +kernel
theorem D33_118 : decode prog_6_method_13_code 118 = .ok (.invokevirtual 144, 3) := by decide +kernel
theorem D33_121 : decode prog_6_method_13_code 121 = .ok (.istore_n 2, 1) := by decide +kernel
theorem D33_122 : decode prog_6_method_13_code 122 = .ok (.iinc 3 1, 3) := by decide +kernel
theorem D33_125 : decode prog_6_method_13_code 125 = .ok (.goto (-58), 3) := by decide +kernel
theorem D33_128 : decode prog_6_method_13_code 128 = .ok (.aload_n 0, 1) := by decide +kernel
theorem D33_129 : decode prog_6_method_13_code 129 = .ok (.iconst 1, 1) := by decide +kernel
theorem D33_130 : decode prog_6_method_13_code 130 = .ok (.invokevirtual 147, 3) := by decide +kernel
theorem D33_133 : decode prog_6_method_13_code 133 = .ok (.aload_n 0, 1) := by decide +kernel
theorem D33_134 : decode prog_6_method_13_code 134 = .ok (.getfield 26, 3) := by decide +kernel
theorem D33_137 : decode prog_6_method_13_code 137 = .ok (.getfield 150, 3) := by decide +kernel
theorem D33_140 : decode prog_6_method_13_code 140 = .ok (.iload_n 1, 1) := by decide +kernel
theorem D33_141 : decode prog_6_method_13_code 141 = .ok (.aload_n 0, 1) := by decide +kernel
theorem D33_142 : decode prog_6_method_13_code 142 = .ok (.getfield 38, 3) := by decide +kernel
theorem D33_145 : decode prog_6_method_13_code 145 = .ok (.iastore, 1) := by decide +kernel
theorem D33_146 : decode prog_6_method_13_code 146 = .ok (.return_, 1) := by decide +kernel

theorem b33_0 {d : Nat}  {ia : Nat → Nat → Int32} {la : Nat → Nat → Int64} {pl dr : Nat} {cp : Option Nat} {cw : Option Nat} {rp : Nat} {K : Option Value → zHP → Prop}  : zWP (d + 1) 33 0 [some (.ref 1), none, none, none] [] (ia, la, zRA pl dr cp cw (some rp)) K = zWM d 59 [.ref 2] (ia, la, zRA pl dr cp cw (some rp)) (zK (d + 1) 33 7 [some (.ref 1), none, none, none] [] K) := by
  refine (Q_aload_n zm_33 (Or.inl (by decide)) D33_0 rfl).trans ?_
  refine (Q_getR (q := 2) zm_33 (Or.inl (by decide)) D33_1 zf_4_12 zs_4_0 zk_1.1 rfl).trans ?_
  exact Q_callv (as := []) (b := 2) (rest := []) zm_33 (Or.inl (by decide)) D33_4 zc_4_75 rfl zk_2.1 (by decide) (by decide +kernel) (by decide) (by simp [zcat, Value.category]) zm_59 rfl

theorem b33_7 {d : Nat}  {ia : Nat → Nat → Int32} {la : Nat → Nat → Int64} {pl dr : Nat} {cp : Option Nat} {cw : Option Nat} {rp : Nat} {K : Option Value → zHP → Prop}  : zWP (d + 1) 33 7 [some (.ref 1), none, none, none] [] (ia, la, zRA pl dr cp cw (some rp)) K = (if ((ia 2 5) - (27 : Int32)) < 0 then zWM d 23 [.ref 1, .int (1 : Int32)] (ia, la, zRA pl dr cp cw (some rp)) (zK (d + 1) 33 32 [some (.ref 1), some (.int ((ia 2 5) - (27 : Int32))), none, none] [] K) else (if ((ia 2 5) - (27 : Int32)) < (3 : Int32) then zWM d 32 [.ref 1, .int ((3 : Int32) + ((ia 2 5) - (27 : Int32)))] (ia, la, zRA pl dr cp cw (some rp)) (zK (d + 1) 33 40 [some (.ref 1), some (.int ((ia 2 5) - (27 : Int32))), none, none] [] K) else zWM d 23 [.ref 1, .int (1 : Int32)] (ia, la, zRA pl dr cp cw (some rp)) (zK (d + 1) 33 32 [some (.ref 1), some (.int ((ia 2 5) - (27 : Int32))), none, none] [] K))) := by
  refine (Q_aload_n zm_33 (Or.inl (by decide)) D33_7 rfl).trans ?_
  refine (Q_getR (q := 2) zm_33 (Or.inl (by decide)) D33_8 zf_4_12 zs_4_0 zk_1.1 rfl).trans ?_
  refine (Q_getI zm_33 (Or.inl (by decide)) D33_11 zf_4_48 (Or.inl zs_7_5) zk_2.1).trans ?_
  refine (Q_bipush (v := 27) zm_33 (Or.inl (by decide)) D33_14 (by decide)).trans ?_
  refine (Q_isub zm_33 (Or.inl (by decide)) D33_16).trans ?_
  refine (Q_istore_n (ls' := [some (.ref 1), some (.int ((ia 2 5) - (27 : Int32))), none, none]) zm_33 (Or.inl (by decide)) D33_17 rfl (Nat.le_of_ble_eq_true rfl) rfl).trans ?_
  refine (Q_iload_n zm_33 (Or.inl (by decide)) D33_18 rfl).trans ?_
  refine (Q_if_lt (tgt := 27) zm_33 (Or.inl (by decide)) D33_19 (by decide)).trans ?_
  refine zif_c (fun h0_ => ?_) (fun h0_ => ?_)
  · refine (Q_aload_n zm_33 (Or.inl (by decide)) D33_27 rfl).trans ?_
    refine (Q_iconst (v := 1) zm_33 (Or.inl (by decide)) D33_28 (by decide)).trans ?_
    exact Q_callv (as := [.int (1 : Int32)]) (b := 1) (rest := []) zm_33 (Or.inl (by decide)) D33_29 zc_4_78 rfl zk_1.1 (by decide) (by decide +kernel) (by decide) (by simp [zcat, Value.category]) zm_23 rfl
  · refine (Q_iload_n zm_33 (Or.inl (by decide)) D33_22 rfl).trans ?_
    refine (Q_iconst (v := 3) zm_33 (Or.inl (by decide)) D33_23 (by decide)).trans ?_
    refine (Q_ic_lt (tgt := 33) zm_33 (Or.inl (by decide)) D33_24 (by decide)).trans ?_
    refine zif_c (fun h1_ => ?_) (fun h1_ => ?_)
    · refine (Q_aload_n zm_33 (Or.inl (by decide)) D33_33 rfl).trans ?_
      refine (Q_iconst (v := 3) zm_33 (Or.inl (by decide)) D33_34 (by decide)).trans ?_
      refine (Q_iload_n zm_33 (Or.inl (by decide)) D33_35 rfl).trans ?_
      refine (Q_iadd zm_33 (Or.inl (by decide)) D33_36).trans ?_
      exact Q_callv (as := [.int ((3 : Int32) + ((ia 2 5) - (27 : Int32)))]) (b := 1) (rest := []) zm_33 (Or.inl (by decide)) D33_37 zc_4_124 rfl zk_1.1 (by decide) (by decide +kernel) (by decide) (by simp [zcat, Value.category]) zm_32 rfl
    · refine (Q_aload_n zm_33 (Or.inl (by decide)) D33_27 rfl).trans ?_
      refine (Q_iconst (v := 1) zm_33 (Or.inl (by decide)) D33_28 (by decide)).trans ?_
      exact Q_callv (as := [.int (1 : Int32)]) (b := 1) (rest := []) zm_33 (Or.inl (by decide)) D33_29 zc_4_78 rfl zk_1.1 (by decide) (by decide +kernel) (by decide) (by simp [zcat, Value.category]) zm_23 rfl

theorem b33_32 {d : Nat} {i1 : Int32} {ia : Nat → Nat → Int32} {la : Nat → Nat → Int64} {pl dr : Nat} {cp : Option Nat} {cw : Option Nat} {rp : Nat} {K : Option Value → zHP → Prop}  : zWP d 33 32 [some (.ref 1), some (.int i1), none, none] [] (ia, la, zRA pl dr cp cw (some rp)) K = K none (ia, la, zRA pl dr cp cw (some rp)) := by
  exact Q_return zm_33 (Or.inl (by decide)) D33_32 rfl

theorem b33_40 {d : Nat} {i1 : Int32} {ia : Nat → Nat → Int32} {la : Nat → Nat → Int64} {pl dr : Nat} {cp : Option Nat} {cw : Option Nat} {rp : Nat} {K : Option Value → zHP → Prop} (hrp : zIsP rp) : zWP d 33 40 [some (.ref 1), some (.int i1), none, none] [] (ia, la, zRA pl dr cp cw (some rp)) K = (vp_in i1 3 ∧ zWP d 33 67 [some (.ref 1), some (.int i1), some (.int (1 : Int32)), some (.int (0 : Int32))] [] ((zu (zu (zu ia (rp + 29) (i1).toNatClampNeg (ia 1 8)) 1 6 (0 : Int32)) 1 7 (0 : Int32)), la, zRA pl dr cp cw (some rp)) K) := by
  refine (Q_aload_n zm_33 (Or.inl (by decide)) D33_40 rfl).trans ?_
  refine (Q_getR (q := rp) zm_33 (Or.inl (by decide)) D33_41 zf_4_26 zs_4_1 zk_1.1 rfl).trans ?_
  refine (Q_getR (q := (rp + 29)) zm_33 (Or.inl (by decide)) D33_44 zf_4_131 zs_3_11 (zkp_0 hrp).1 (zrp_11 hrp)).trans ?_
  refine (Q_iload_n zm_33 (Or.inl (by decide)) D33_47 rfl).trans ?_
  refine (Q_aload_n zm_33 (Or.inl (by decide)) D33_48 rfl).trans ?_
  refine (Q_getI zm_33 (Or.inl (by decide)) D33_49 zf_4_38 (Or.inl zs_4_8) zk_1.1).trans ?_
  refine (Q_iastore zm_33 (Or.inl (by decide)) D33_52 (zkp_29 hrp).1 (zkp_29 hrp).2).trans ?_
  refine zand_c (fun h0_ => ?_)
  refine (Q_aload_n zm_33 (Or.inl (by decide)) D33_53 rfl).trans ?_
  refine (Q_iconst (v := 0) zm_33 (Or.inl (by decide)) D33_54 (by decide)).trans ?_
  refine (Q_putI zm_33 (Or.inl (by decide)) D33_55 zf_4_134 zs_4_6 rfl zk_1.1).trans ?_
  refine (Q_aload_n zm_33 (Or.inl (by decide)) D33_58 rfl).trans ?_
  refine (Q_iconst (v := 0) zm_33 (Or.inl (by decide)) D33_59 (by decide)).trans ?_
  refine (Q_putI zm_33 (Or.inl (by decide)) D33_60 zf_4_137 zs_4_7 rfl zk_1.1).trans ?_
  refine (Q_iconst (v := 1) zm_33 (Or.inl (by decide)) D33_63 (by decide)).trans ?_
  refine (Q_istore_n (ls' := [some (.ref 1), some (.int i1), some (.int (1 : Int32)), none]) zm_33 (Or.inl (by decide)) D33_64 rfl (Nat.le_of_ble_eq_true rfl) rfl).trans ?_
  refine (Q_iconst (v := 0) zm_33 (Or.inl (by decide)) D33_65 (by decide)).trans ?_
  refine (Q_istore_n (ls' := [some (.ref 1), some (.int i1), some (.int (1 : Int32)), some (.int (0 : Int32))]) zm_33 (Or.inl (by decide)) D33_66 rfl (Nat.le_of_ble_eq_true rfl) rfl).trans ?_
  rfl

theorem b33_67 {d : Nat} {i1 : Int32} {i2 : Int32} {i3 : Int32} {ia : Nat → Nat → Int32} {la : Nat → Nat → Int64} {pl dr : Nat} {cp : Option Nat} {cw : Option Nat} {rp : Nat} {K : Option Value → zHP → Prop}  : zWP (d + 1) 33 67 [some (.ref 1), some (.int i1), some (.int i2), some (.int i3)] [] (ia, la, zRA pl dr cp cw (some rp)) K = (if (700 : Int32) ≤ i3 then zWM d 41 [.ref 1, .int (1 : Int32)] (ia, la, zRA pl dr cp cw (some rp)) (zK (d + 1) 33 133 [some (.ref 1), some (.int i1), some (.int i2), some (.int i3)] [] K) else (if ¬ (ia 1 3) = 0 then zWM d 41 [.ref 1, .int (1 : Int32)] (ia, la, zRA pl dr cp cw (some rp)) (zK (d + 1) 33 133 [some (.ref 1), some (.int i1), some (.int i2), some (.int i3)] [] K) else (if ¬ i2 = 0 then (if i2 = 0 then zWM d 36 [.ref 1] (ia, la, zRA pl dr cp cw (some rp)) (zK (d + 1) 33 121 [some (.ref 1), some (.int i1), some (.int i2), some (.int i3)] [] K) else zWM d 34 [.ref 1] (ia, la, zRA pl dr cp cw (some rp)) (zK (d + 1) 33 114 [some (.ref 1), some (.int i1), some (.int i2), some (.int i3)] [] K)) else (if ¬ (ia 1 7) = 0 then (if i2 = 0 then zWM d 36 [.ref 1] (ia, la, zRA pl dr cp cw (some rp)) (zK (d + 1) 33 121 [some (.ref 1), some (.int i1), some (.int i2), some (.int i3)] [] K) else zWM d 34 [.ref 1] (ia, la, zRA pl dr cp cw (some rp)) (zK (d + 1) 33 114 [some (.ref 1), some (.int i1), some (.int i2), some (.int i3)] [] K)) else (if ¬ (ia 2 5) = (4 : Int32) then (if i2 = 0 then zWM d 36 [.ref 1] (ia, la, zRA pl dr cp cw (some rp)) (zK (d + 1) 33 121 [some (.ref 1), some (.int i1), some (.int i2), some (.int i3)] [] K) else zWM d 34 [.ref 1] (ia, la, zRA pl dr cp cw (some rp)) (zK (d + 1) 33 114 [some (.ref 1), some (.int i1), some (.int i2), some (.int i3)] [] K)) else zWM d 41 [.ref 1, .int (1 : Int32)] (ia, la, zRA pl dr cp cw (some rp)) (zK (d + 1) 33 133 [some (.ref 1), some (.int i1), some (.int i2), some (.int i3)] [] K)))))) := by
  refine (Q_iload_n zm_33 (Or.inl (by decide)) D33_67 rfl).trans ?_
  refine (Q_sipush (v := 700) zm_33 (Or.inl (by decide)) D33_68 (by decide)).trans ?_
  refine (Q_ic_ge (tgt := 128) zm_33 (Or.inl (by decide)) D33_71 (by decide)).trans ?_
  refine zif_c (fun h0_ => ?_) (fun h0_ => ?_)
  · refine (Q_aload_n zm_33 (Or.inl (by decide)) D33_128 rfl).trans ?_
    refine (Q_iconst (v := 1) zm_33 (Or.inl (by decide)) D33_129 (by decide)).trans ?_
    exact Q_callv (as := [.int (1 : Int32)]) (b := 1) (rest := []) zm_33 (Or.inl (by decide)) D33_130 zc_4_147 rfl zk_1.1 (by decide) (by decide +kernel) (by decide) (by simp [zcat, Value.category]) zm_41 rfl
  · refine (Q_aload_n zm_33 (Or.inl (by decide)) D33_74 rfl).trans ?_
    refine (Q_getI zm_33 (Or.inl (by decide)) D33_75 zf_4_41 (Or.inl zs_4_3) zk_1.1).trans ?_
    refine (Q_if_ne (tgt := 128) zm_33 (Or.inl (by decide)) D33_78 (by decide)).trans ?_
    refine zif_c (fun h1_ => ?_) (fun h1_ => ?_)
    · refine (Q_aload_n zm_33 (Or.inl (by decide)) D33_128 rfl).trans ?_
      refine (Q_iconst (v := 1) zm_33 (Or.inl (by decide)) D33_129 (by decide)).trans ?_
      exact Q_callv (as := [.int (1 : Int32)]) (b := 1) (rest := []) zm_33 (Or.inl (by decide)) D33_130 zc_4_147 rfl zk_1.1 (by decide) (by decide +kernel) (by decide) (by simp [zcat, Value.category]) zm_41 rfl
    · refine (Q_iload_n zm_33 (Or.inl (by decide)) D33_81 rfl).trans ?_
      refine (Q_if_ne (tgt := 106) zm_33 (Or.inl (by decide)) D33_82 (by decide)).trans ?_
      refine zif_c (fun h2_ => ?_) (fun h2_ => ?_)
      · refine (Q_iload_n zm_33 (Or.inl (by decide)) D33_106 rfl).trans ?_
        refine (Q_if_eq (tgt := 117) zm_33 (Or.inl (by decide)) D33_107 (by decide)).trans ?_
        refine zif_c (fun h3_ => ?_) (fun h3_ => ?_)
        · refine (Q_aload_n zm_33 (Or.inl (by decide)) D33_117 rfl).trans ?_
          exact Q_callv (as := []) (b := 1) (rest := []) zm_33 (Or.inl (by decide)) D33_118 zc_4_144 rfl zk_1.1 (by decide) (by decide +kernel) (by decide) (by simp [zcat, Value.category]) zm_36 rfl
        · refine (Q_aload_n zm_33 (Or.inl (by decide)) D33_110 rfl).trans ?_
          exact Q_callv (as := []) (b := 1) (rest := []) zm_33 (Or.inl (by decide)) D33_111 zc_4_140 rfl zk_1.1 (by decide) (by decide +kernel) (by decide) (by simp [zcat, Value.category]) zm_34 rfl
      · refine (Q_aload_n zm_33 (Or.inl (by decide)) D33_85 rfl).trans ?_
        refine (Q_getI zm_33 (Or.inl (by decide)) D33_86 zf_4_137 (Or.inl zs_4_7) zk_1.1).trans ?_
        refine (Q_if_ne (tgt := 106) zm_33 (Or.inl (by decide)) D33_89 (by decide)).trans ?_
        refine zif_c (fun h4_ => ?_) (fun h4_ => ?_)
        · refine (Q_iload_n zm_33 (Or.inl (by decide)) D33_106 rfl).trans ?_
          refine (Q_if_eq (tgt := 117) zm_33 (Or.inl (by decide)) D33_107 (by decide)).trans ?_
          refine zif_c (fun h5_ => ?_) (fun h5_ => ?_)
          · refine (Q_aload_n zm_33 (Or.inl (by decide)) D33_117 rfl).trans ?_
            exact Q_callv (as := []) (b := 1) (rest := []) zm_33 (Or.inl (by decide)) D33_118 zc_4_144 rfl zk_1.1 (by decide) (by decide +kernel) (by decide) (by simp [zcat, Value.category]) zm_36 rfl
          · refine (Q_aload_n zm_33 (Or.inl (by decide)) D33_110 rfl).trans ?_
            exact Q_callv (as := []) (b := 1) (rest := []) zm_33 (Or.inl (by decide)) D33_111 zc_4_140 rfl zk_1.1 (by decide) (by decide +kernel) (by decide) (by simp [zcat, Value.category]) zm_34 rfl
        · refine (Q_aload_n zm_33 (Or.inl (by decide)) D33_92 rfl).trans ?_
          refine (Q_getR (q := 2) zm_33 (Or.inl (by decide)) D33_93 zf_4_12 zs_4_0 zk_1.1 rfl).trans ?_
          refine (Q_getI zm_33 (Or.inl (by decide)) D33_96 zf_4_48 (Or.inl zs_7_5) zk_2.1).trans ?_
          refine (Q_iconst (v := 4) zm_33 (Or.inl (by decide)) D33_99 (by decide)).trans ?_
          refine (Q_ic_ne (tgt := 106) zm_33 (Or.inl (by decide)) D33_100 (by decide)).trans ?_
          refine zif_c (fun h6_ => ?_) (fun h6_ => ?_)
          · refine (Q_iload_n zm_33 (Or.inl (by decide)) D33_106 rfl).trans ?_
            refine (Q_if_eq (tgt := 117) zm_33 (Or.inl (by decide)) D33_107 (by decide)).trans ?_
            refine zif_c (fun h7_ => ?_) (fun h7_ => ?_)
            · refine (Q_aload_n zm_33 (Or.inl (by decide)) D33_117 rfl).trans ?_
              exact Q_callv (as := []) (b := 1) (rest := []) zm_33 (Or.inl (by decide)) D33_118 zc_4_144 rfl zk_1.1 (by decide) (by decide +kernel) (by decide) (by simp [zcat, Value.category]) zm_36 rfl
            · refine (Q_aload_n zm_33 (Or.inl (by decide)) D33_110 rfl).trans ?_
              exact Q_callv (as := []) (b := 1) (rest := []) zm_33 (Or.inl (by decide)) D33_111 zc_4_140 rfl zk_1.1 (by decide) (by decide +kernel) (by decide) (by simp [zcat, Value.category]) zm_34 rfl
          · refine (Q_goto (tgt := 128) zm_33 (Or.inl (by decide)) D33_103 (by decide)).trans ?_
            refine (Q_aload_n zm_33 (Or.inl (by decide)) D33_128 rfl).trans ?_
            refine (Q_iconst (v := 1) zm_33 (Or.inl (by decide)) D33_129 (by decide)).trans ?_
            exact Q_callv (as := [.int (1 : Int32)]) (b := 1) (rest := []) zm_33 (Or.inl (by decide)) D33_130 zc_4_147 rfl zk_1.1 (by decide) (by decide +kernel) (by decide) (by simp [zcat, Value.category]) zm_41 rfl

theorem b33_133 {d : Nat} {i1 : Int32} {i2 : Int32} {i3 : Int32} {ia : Nat → Nat → Int32} {la : Nat → Nat → Int64} {pl dr : Nat} {cp : Option Nat} {cw : Option Nat} {rp : Nat} {K : Option Value → zHP → Prop} (hrp : zIsP rp) : zWP d 33 133 [some (.ref 1), some (.int i1), some (.int i2), some (.int i3)] [] (ia, la, zRA pl dr cp cw (some rp)) K = (vp_in i1 3 ∧ K none ((zu ia (rp + 30) (i1).toNatClampNeg (ia 1 8)), la, zRA pl dr cp cw (some rp))) := by
  refine (Q_aload_n zm_33 (Or.inl (by decide)) D33_133 rfl).trans ?_
  refine (Q_getR (q := rp) zm_33 (Or.inl (by decide)) D33_134 zf_4_26 zs_4_1 zk_1.1 rfl).trans ?_
  refine (Q_getR (q := (rp + 30)) zm_33 (Or.inl (by decide)) D33_137 zf_4_150 zs_3_12 (zkp_0 hrp).1 (zrp_12 hrp)).trans ?_
  refine (Q_iload_n zm_33 (Or.inl (by decide)) D33_140 rfl).trans ?_
  refine (Q_aload_n zm_33 (Or.inl (by decide)) D33_141 rfl).trans ?_
  refine (Q_getI zm_33 (Or.inl (by decide)) D33_142 zf_4_38 (Or.inl zs_4_8) zk_1.1).trans ?_
  refine (Q_iastore zm_33 (Or.inl (by decide)) D33_145 (zkp_30 hrp).1 (zkp_30 hrp).2).trans ?_
  refine zand_c (fun h0_ => ?_)
  exact Q_return zm_33 (Or.inl (by decide)) D33_146 rfl

theorem b33_121 {d : Nat} {i1 : Int32} {i2 : Int32} {i3 : Int32} {s0 : Int32} {ia : Nat → Nat → Int32} {la : Nat → Nat → Int64} {pl dr : Nat} {cp : Option Nat} {cw : Option Nat} {rp : Nat} {K : Option Value → zHP → Prop}  : zWP d 33 121 [some (.ref 1), some (.int i1), some (.int i2), some (.int i3)] [.int s0] (ia, la, zRA pl dr cp cw (some rp)) K = zWP d 33 67 [some (.ref 1), some (.int i1), some (.int s0), some (.int (i3 + (1 : Int32)))] [] (ia, la, zRA pl dr cp cw (some rp)) K := by
  refine (Q_istore_n (ls' := [some (.ref 1), some (.int i1), some (.int s0), some (.int i3)]) zm_33 (Or.inl (by decide)) D33_121 rfl (Nat.le_of_ble_eq_true rfl) rfl).trans ?_
  refine (Q_iinc (v := 1) (ls' := [some (.ref 1), some (.int i1), some (.int s0), some (.int (i3 + (1 : Int32)))]) zm_33 (Or.inl (by decide)) D33_122 rfl rfl (by decide) rfl).trans ?_
  refine (Q_goto (tgt := 67) zm_33 (Or.inl (by decide)) D33_125 (by decide)).trans ?_
  rfl

theorem b33_114 {d : Nat} {i1 : Int32} {i2 : Int32} {i3 : Int32} {s0 : Int32} {ia : Nat → Nat → Int32} {la : Nat → Nat → Int64} {pl dr : Nat} {cp : Option Nat} {cw : Option Nat} {rp : Nat} {K : Option Value → zHP → Prop}  : zWP d 33 114 [some (.ref 1), some (.int i1), some (.int i2), some (.int i3)] [.int s0] (ia, la, zRA pl dr cp cw (some rp)) K = zWP d 33 67 [some (.ref 1), some (.int i1), some (.int s0), some (.int (i3 + (1 : Int32)))] [] (ia, la, zRA pl dr cp cw (some rp)) K := by
  refine (Q_goto (tgt := 121) zm_33 (Or.inl (by decide)) D33_114 (by decide)).trans ?_
  refine (Q_istore_n (ls' := [some (.ref 1), some (.int i1), some (.int s0), some (.int i3)]) zm_33 (Or.inl (by decide)) D33_121 rfl (Nat.le_of_ble_eq_true rfl) rfl).trans ?_
  refine (Q_iinc (v := 1) (ls' := [some (.ref 1), some (.int i1), some (.int s0), some (.int (i3 + (1 : Int32)))]) zm_33 (Or.inl (by decide)) D33_122 rfl rfl (by decide) rfl).trans ?_
  refine (Q_goto (tgt := 67) zm_33 (Or.inl (by decide)) D33_125 (by decide)).trans ?_
  rfl

/-! HandsLet$Reader.readOperand()Z -/
theorem D34_0 : decode prog_6_method_14_code 0 = .ok (.aload_n 0, 1) := by decide +kernel
theorem D34_1 : decode prog_6_method_14_code 1 = .ok (.getfield 12, 3) := by decide +kernel
theorem D34_4 : decode prog_6_method_14_code 4 = .ok (.getfield 48, 3) := by decide +kernel
theorem D34_7 : decode prog_6_method_14_code 7 = .ok (.istore_n 1, 1) := by decide +kernel
theorem D34_8 : decode prog_6_method_14_code 8 = .ok (.iload_n 1, 1) := by decide +kernel
theorem D34_9 : decode prog_6_method_14_code 9 = .ok (.iconst 2, 1) := by decide +kernel
theorem D34_10 : decode prog_6_method_14_code 10 = .ok (.if_icmp .ne 7, 3) := by decide +kernel
theorem D34_13 : decode prog_6_method_14_code 13 = .ok (.iconst 1, 1) := by decide +kernel
theorem D34_14 : decode prog_6_method_14_code 14 = .ok (.goto 4, 3) := by decide +kernel
theorem D34_17 : decode prog_6_method_14_code 17 = .ok (.iconst 0, 1) := by decide +kernel
theorem D34_18 : decode prog_6_method_14_code 18 = .ok (.istore_n 2, 1) := by decide +kernel
theorem D34_19 : decode prog_6_method_14_code 19 = .ok (.iload_n 1, 1) := by decide +kernel
theorem D34_20 : decode prog_6_method_14_code 20 = .ok (.bipush 33, 2) := by decide +kernel
theorem D34_22 : decode prog_6_method_14_code 22 = .ok (.if_icmp .lt 13, 3) := by decide +kernel
theorem D34_25 : decode prog_6_method_14_code 25 = .ok (.iload_n 1, 1) := by decide +kernel
theorem D34_26 : decode prog_6_method_14_code 26 = .ok (.bipush 39, 2) := by decide +kernel
theorem D34_28 : decode prog_6_method_14_code 28 = .ok (.if_icmp .gt 7, 3) := by decide +kernel
theorem D34_31 : decode prog_6_method_14_code 31 = .ok (.iconst 1, 1) := by decide +kernel
theorem D34_32 : decode prog_6_method_14_code 32 = .ok (.goto 4, 3) := by decide +kernel
theorem D34_35 : decode prog_6_method_14_code 35 = .ok (.iconst 0, 1) := by decide +kernel
theorem D34_36 : decode prog_6_method_14_code 36 = .ok (.istore_n 3, 1) := by decide +kernel
theorem D34_37 : decode prog_6_method_14_code 37 = .ok (.iload_n 1, 1) := by decide +kernel
theorem D34_38 : decode prog_6_method_14_code 38 = .ok (.bipush 32, 2) := by decide +kernel
theorem D34_40 : decode prog_6_method_14_code 40 = .ok (.if_icmp .ne 14, 3) := by decide +kernel
theorem D34_43 : decode prog_6_method_14_code 43 = .ok (.aload_n 0, 1) := by decide +kernel
theorem D34_44 : decode prog_6_method_14_code 44 = .ok (.invokevirtual 153, 3) := by decide +kernel
theorem D34_47 : decode prog_6_method_14_code 47 = .ok (.ifCond .eq 7, 3) := by decide +kernel
theorem D34_50 : decode prog_6_method_14_code 50 = .ok (.iconst 1, 1) := by decide +kernel
theorem D34_51 : decode prog_6_method_14_code 51 = .ok (.goto 4, 3) := by decide +kernel
theorem D34_54 : decode prog_6_method_14_code 54 = .ok (.iconst 0, 1) := by decide +kernel
theorem D34_55 : decode prog_6_method_14_code 55 = .ok (.istore 4, 2) := by decide +kernel
theorem D34_57 : decode prog_6_method_14_code 57 = .ok (.iload_n 2, 1) := by decide +kernel
theorem D34_58 : decode prog_6_method_14_code 58 = .ok (.ifCond .eq 16, 3) := by decide +kernel
theorem D34_61 : decode prog_6_method_14_code 61 = .ok (.aload_n 0, 1) := by decide +kernel
theorem D34_62 : decode prog_6_method_14_code 62 = .ok (.getfield 12, 3) := by decide +kernel
theorem D34_65 : decode prog_6_method_14_code 65 = .ok (.getfield 81, 3) := by decide +kernel
theorem D34_68 : decode prog_6_method_14_code 68 = .ok (.sipush 9999, 3) := by decide +kernel
theorem D34_71 : decode prog_6_method_14_code 71 = .ok (.if_icmp .gt 17, 3) := by decide +kernel
theorem D34_74 : decode prog_6_method_14_code 74 = .ok (.iload_n 1, 1) := by decide +kernel
theorem D34_75 : decode prog_6_method_14_code 75 = .ok (.iconst 5, 1) := by decide +kernel
theorem D34_76 : decode prog_6_method_14_code 76 = .ok (.if_icmp .ne 17, 3) := by decide +kernel
theorem D34_79 : decode prog_6_method_14_code 79 = .ok (.aload_n 0, 1) := by decide +kernel
theorem D34_80 : decode prog_6_method_14_code 80 = .ok (.getfield 137, 3) := by decide +kernel
theorem D34_83 : decode prog_6_method_14_code 83 = .ok (.bipush 8, 2) := by decide +kernel
theorem D34_85 : decode prog_6_method_14_code 85 = .ok (.if_icmp .lt 8, 3) := by decide +kernel
theorem D34_88 : decode prog_6_method_14_code 88 = .ok (.aload_n 0, 1) := by decide +kernel
theorem D34_89 : decode prog_6_method_14_code 89 = .ok (.iconst 2, 1) := by decide +kernel
theorem D34_90 : decode prog_6_method_14_code 90 = .ok (.invokevirtual 78, 3) := by decide +kernel
theorem D34_93 : decode prog_6_method_14_code 93 = .ok (.iload_n 2, 1) := by decide +kernel
theorem D34_94 : decode prog_6_method_14_code 94 = .ok (.ifCond .ne 12, 3) := by decide +kernel
theorem D34_97 : decode prog_6_method_14_code 97 = .ok (.iload_n 3, 1) := by decide +kernel
theorem D34_98 : decode prog_6_method_14_code 98 = .ok (.ifCond .ne 8, 3) := by decide +kernel
theorem D34_101 : decode prog_6_method_14_code 101 = .ok (.iload 4, 2) := by decide +kernel
theorem D34_103 : decode prog_6_method_14_code 103 = .ok (.ifCond .eq 7, 3) := by decide +kernel
theorem D34_106 : decode prog_6_method_14_code 106 = .ok (.aload_n 0, 1) := by decide +kernel
theorem D34_107 : decode prog_6_method_14_code 107 = .ok (.invokevirtual 156, 3) := by decide +kernel
theorem D34_110 : decode prog_6_method_14_code 110 = .ok (.iload_n 2, 1) := by decide +kernel
theorem D34_111 : decode prog_6_method_14_code 111 = .ok (.ifCond .ne 7, 3) := by decide +kernel
theorem D34_114 : decode prog_6_method_14_code 114 = .ok (.iload_n 3, 1) := by decide +kernel
theorem D34_115 : decode prog_6_method_14_code 115 = .ok (.ifCond .eq 18, 3) := by decide +kernel
theorem D34_118 : decode prog_6_method_14_code 118 = .ok (.aload_n 0, 1) := by decide +kernel
theorem D34_119 : decode prog_6_method_14_code 119 = .ok (.iload_n 1, 1) := by decide +kernel
theorem D34_120 : decode prog_6_method_14_code 120 = .ok (.aload_n 0, 1) := by decide +kernel
theorem D34_121 : decode prog_6_method_14_code 121 = .ok (.getfield 12, 3) := by decide +kernel
theorem D34_124 : decode prog_6_method_14_code 124 = .ok (.getfield 81, 3) := by decide +kernel
theorem D34_127 : decode prog_6_method_14_code 127 = .ok (.invokevirtual 159, 3) := by decide +kernel
theorem D34_130 : decode prog_6_method_14_code 130 = .ok (.goto 45, 3) := by decide +kernel
theorem D34_133 : decode prog_6_method_14_code 133 = .ok (.iload 4, 2) := by decide +kernel
theorem D34_135 : decode prog_6_method_14_code 135 = .ok (.ifCond .eq 12, 3) := by decide +kernel
theorem D34_138 : decode prog_6_method_14_code 138 = .ok (.aload_n 0, 1) := by decide +kernel
theorem D34_139 : decode prog_6_method_14_code 139 = .ok (.bipush 32, 2) := by decide +kernel
theorem D34_141 : decode prog_6_method_14_code 141 = .ok (.invokevirtual 163, 3) := by decide +kernel
theorem D34_144 : decode prog_6_method_14_code 144 = .ok (.goto 31, 3) := by decide +kernel
theorem D34_147 : decode prog_6_method_14_code 147 = .ok (.iload_n 1, 1) := by decide +kernel
theorem D34_148 : decode prog_6_method_14_code 148 = .ok (.iconst 5, 1) := by decide +kernel
theorem D34_149 : decode prog_6_method_14_code 149 = .ok (.if_icmp .ne 21, 3) := by decide +kernel
theorem D34_152 : decode prog_6_method_14_code 152 = .ok (.aload_n 0, 1) := by decide +kernel
theorem D34_153 : decode prog_6_method_14_code 153 = .ok (.dup, 1) := by decide +kernel
theorem D34_154 : decode prog_6_method_14_code 154 = .ok (.getfield 137, 3) := by decide +kernel
theorem D34_157 : decode prog_6_method_14_code 157 = .ok (.iconst 1, 1) := by decide +kernel
theorem D34_158 : decode prog_6_method_14_code 158 = .ok (.iadd, 1) := by decide +kernel
theorem D34_159 : decode prog_6_method_14_code 159 = .ok (.putfield 137, 3) := by decide +kernel
theorem D34_162 : decode prog_6_method_14_code 162 = .ok (.aload_n 0, 1) := by decide +kernel
theorem D34_163 : decode prog_6_method_14_code 163 = .ok (.iconst 5, 1) := by decide +kernel
theorem D34_164 : decode prog_6_method_14_code 164 = .ok (.invokevirtual 163, 3) := by decide +kernel
theorem D34_167 : decode prog_6_method_14_code 167 = .ok (.goto 8, 3) := by decide +kernel
theorem D34_170 : decode prog_6_method_14_code 170 = .ok (.aload_n 0, 1) := by decide +kernel
theorem D34_171 : decode prog_6_method_14_code 171 = .ok (.iconst 1, 1) := by decide +kernel
theorem D34_172 : decode prog_6_method_14_code 172 = .ok (.invokevirtual 78, 3) := by decide +kernel
theorem D34_175 : decode prog_6_method_14_code 175 = .ok (.aload_n 0, 1) := by decide +kernel
theorem D34_176 : decode prog_6_method_14_code 176 = .ok (.iload_n 1, 1) := by decide +kernel
theorem D34_177 : decode prog_6_method_14_code 177 = .ok (.invokevirtual 66, 3) := by decide +kernel
theorem D34_180 : decode prog_6_method_14_code 180 = .ok (.iload_n 2, 1) := by decide +kernel
theorem D34_181 : decode prog_6_method_14_code 181 = .ok (.ifCond .ne 11, 3) := by decide +kernel
theorem D34_184 : decode prog_6_method_14_code 184 = .ok (.iload_n 3, 1) := by decide +kernel
theorem D34_185 : decode prog_6_method_14_code 185 = .ok (.ifCond .ne 7, 3) := by decide +kernel
theorem D34_188 : decode prog_6_method_14_code 188 = .ok (.iconst 1, 1) := by decide +kernel
theorem D34_189 : decode prog_6_method_14_code 189 = .ok (.goto 4, 3) := by decide +kernel
theorem D34_192 : decode prog_6_method_14_code 192 = .ok (.iconst 0, 1) := by decide +kernel
theorem D34_193 : decode prog_6_method_14_code 193 = .ok (.ireturn, 1) := by decide +kernel

theorem b34_0 {d : Nat}  {ia : Nat → Nat → Int32} {la : Nat → Nat → Int64} {pl dr : Nat} {cp : Option Nat} {cw : Option Nat} {rp : Nat} {K : Option Value → zHP → Prop}  : zWP d 34 0 [some (.ref 1), none, none, none, none] [] (ia, la, zRA pl dr cp cw (some rp)) K = (if ¬ (ia 2 5) = (2 : Int32) then zWP d 34 18 [some (.ref 1), some (.int (ia 2 5)), none, none, none] [.int (0 : Int32)] (ia, la, zRA pl dr cp cw (some rp)) K else zWP d 34 18 [some (.ref 1), some (.int (ia 2 5)), none, none, none] [.int (1 : Int32)] (ia, la, zRA pl dr cp cw (some rp)) K) := by
  refine (Q_aload_n zm_34 (Or.inl (by decide)) D34_0 rfl).trans ?_
  refine (Q_getR (q := 2) zm_34 (Or.inl (by decide)) D34_1 zf_4_12 zs_4_0 zk_1.1 rfl).trans ?_
  refine (Q_getI zm_34 (Or.inl (by decide)) D34_4 zf_4_48 (Or.inl zs_7_5) zk_2.1).trans ?_
  refine (Q_istore_n (ls' := [some (.ref 1), some (.int (ia 2 5)), none, none, none]) zm_34 (Or.inl (by decide)) D34_7 rfl (Nat.le_of_ble_eq_true rfl) rfl).trans ?_
  refine (Q_iload_n zm_34 (Or.inl (by decide)) D34_8 rfl).trans ?_
  refine (Q_iconst (v := 2) zm_34 (Or.inl (by decide)) D34_9 (by decide)).trans ?_
  refine (Q_ic_ne (tgt := 17) zm_34 (Or.inl (by decide)) D34_10 (by decide)).trans ?_
  refine zif_c (fun h0_ => ?_) (fun h0_ => ?_)
  · refine (Q_iconst (v := 0) zm_34 (Or.inl (by decide)) D34_17 (by decide)).trans ?_
    rfl
  · refine (Q_iconst (v := 1) zm_34 (Or.inl (by decide)) D34_13 (by decide)).trans ?_
    refine (Q_goto (tgt := 18) zm_34 (Or.inl (by decide)) D34_14 (by decide)).trans ?_
    rfl

theorem b34_18 {d : Nat} {i1 : Int32} {s0 : Int32} {ia : Nat → Nat → Int32} {la : Nat → Nat → Int64} {pl dr : Nat} {cp : Option Nat} {cw : Option Nat} {rp : Nat} {K : Option Value → zHP → Prop}  : zWP d 34 18 [some (.ref 1), some (.int i1), none, none, none] [.int s0] (ia, la, zRA pl dr cp cw (some rp)) K = (if i1 < (33 : Int32) then zWP d 34 35 [some (.ref 1), some (.int i1), some (.int s0), none, none] [] (ia, la, zRA pl dr cp cw (some rp)) K else (if (39 : Int32) < i1 then zWP d 34 35 [some (.ref 1), some (.int i1), some (.int s0), none, none] [] (ia, la, zRA pl dr cp cw (some rp)) K else zWP d 34 36 [some (.ref 1), some (.int i1), some (.int s0), none, none] [.int (1 : Int32)] (ia, la, zRA pl dr cp cw (some rp)) K)) := by
  refine (Q_istore_n (ls' := [some (.ref 1), some (.int i1), some (.int s0), none, none]) zm_34 (Or.inl (by decide)) D34_18 rfl (Nat.le_of_ble_eq_true rfl) rfl).trans ?_
  refine (Q_iload_n zm_34 (Or.inl (by decide)) D34_19 rfl).trans ?_
  refine (Q_bipush (v := 33) zm_34 (Or.inl (by decide)) D34_20 (by decide)).trans ?_
  refine (Q_ic_lt (tgt := 35) zm_34 (Or.inl (by decide)) D34_22 (by decide)).trans ?_
  refine zif_c (fun h0_ => ?_) (fun h0_ => ?_)
  · rfl
  · refine (Q_iload_n zm_34 (Or.inl (by decide)) D34_25 rfl).trans ?_
    refine (Q_bipush (v := 39) zm_34 (Or.inl (by decide)) D34_26 (by decide)).trans ?_
    refine (Q_ic_gt (tgt := 35) zm_34 (Or.inl (by decide)) D34_28 (by decide)).trans ?_
    refine zif_c (fun h1_ => ?_) (fun h1_ => ?_)
    · rfl
    · refine (Q_iconst (v := 1) zm_34 (Or.inl (by decide)) D34_31 (by decide)).trans ?_
      refine (Q_goto (tgt := 36) zm_34 (Or.inl (by decide)) D34_32 (by decide)).trans ?_
      rfl

theorem b34_35 {d : Nat} {i1 : Int32} {i2 : Int32} {ia : Nat → Nat → Int32} {la : Nat → Nat → Int64} {pl dr : Nat} {cp : Option Nat} {cw : Option Nat} {rp : Nat} {K : Option Value → zHP → Prop}  : zWP d 34 35 [some (.ref 1), some (.int i1), some (.int i2), none, none] [] (ia, la, zRA pl dr cp cw (some rp)) K = zWP d 34 36 [some (.ref 1), some (.int i1), some (.int i2), none, none] [.int (0 : Int32)] (ia, la, zRA pl dr cp cw (some rp)) K := by
  refine (Q_iconst (v := 0) zm_34 (Or.inl (by decide)) D34_35 (by decide)).trans ?_
  rfl

theorem b34_36 {d : Nat} {i1 : Int32} {i2 : Int32} {s0 : Int32} {ia : Nat → Nat → Int32} {la : Nat → Nat → Int64} {pl dr : Nat} {cp : Option Nat} {cw : Option Nat} {rp : Nat} {K : Option Value → zHP → Prop}  : zWP (d + 1) 34 36 [some (.ref 1), some (.int i1), some (.int i2), none, none] [.int s0] (ia, la, zRA pl dr cp cw (some rp)) K = (if ¬ i1 = (32 : Int32) then zWP (d + 1) 34 54 [some (.ref 1), some (.int i1), some (.int i2), some (.int s0), none] [] (ia, la, zRA pl dr cp cw (some rp)) K else zWM d 35 [.ref 1] (ia, la, zRA pl dr cp cw (some rp)) (zK (d + 1) 34 47 [some (.ref 1), some (.int i1), some (.int i2), some (.int s0), none] [] K)) := by
  refine (Q_istore_n (ls' := [some (.ref 1), some (.int i1), some (.int i2), some (.int s0), none]) zm_34 (Or.inl (by decide)) D34_36 rfl (Nat.le_of_ble_eq_true rfl) rfl).trans ?_
  refine (Q_iload_n zm_34 (Or.inl (by decide)) D34_37 rfl).trans ?_
  refine (Q_bipush (v := 32) zm_34 (Or.inl (by decide)) D34_38 (by decide)).trans ?_
  refine (Q_ic_ne (tgt := 54) zm_34 (Or.inl (by decide)) D34_40 (by decide)).trans ?_
  refine zif_c (fun h0_ => ?_) (fun h0_ => ?_)
  · rfl
  · refine (Q_aload_n zm_34 (Or.inl (by decide)) D34_43 rfl).trans ?_
    exact Q_callv (as := []) (b := 1) (rest := []) zm_34 (Or.inl (by decide)) D34_44 zc_4_153 rfl zk_1.1 (by decide) (by decide +kernel) (by decide) (by simp [zcat, Value.category]) zm_35 rfl

theorem b34_54 {d : Nat} {i1 : Int32} {i2 : Int32} {i3 : Int32} {ia : Nat → Nat → Int32} {la : Nat → Nat → Int64} {pl dr : Nat} {cp : Option Nat} {cw : Option Nat} {rp : Nat} {K : Option Value → zHP → Prop}  : zWP d 34 54 [some (.ref 1), some (.int i1), some (.int i2), some (.int i3), none] [] (ia, la, zRA pl dr cp cw (some rp)) K = zWP d 34 55 [some (.ref 1), some (.int i1), some (.int i2), some (.int i3), none] [.int (0 : Int32)] (ia, la, zRA pl dr cp cw (some rp)) K := by
  refine (Q_iconst (v := 0) zm_34 (Or.inl (by decide)) D34_54 (by decide)).trans ?_
  rfl

theorem b34_47 {d : Nat} {i1 : Int32} {i2 : Int32} {i3 : Int32} {s0 : Int32} {ia : Nat → Nat → Int32} {la : Nat → Nat → Int64} {pl dr : Nat} {cp : Option Nat} {cw : Option Nat} {rp : Nat} {K : Option Value → zHP → Prop}  : zWP d 34 47 [some (.ref 1), some (.int i1), some (.int i2), some (.int i3), none] [.int s0] (ia, la, zRA pl dr cp cw (some rp)) K = (if s0 = 0 then zWP d 34 54 [some (.ref 1), some (.int i1), some (.int i2), some (.int i3), none] [] (ia, la, zRA pl dr cp cw (some rp)) K else zWP d 34 55 [some (.ref 1), some (.int i1), some (.int i2), some (.int i3), none] [.int (1 : Int32)] (ia, la, zRA pl dr cp cw (some rp)) K) := by
  refine (Q_if_eq (tgt := 54) zm_34 (Or.inl (by decide)) D34_47 (by decide)).trans ?_
  refine zif_c (fun h0_ => ?_) (fun h0_ => ?_)
  · rfl
  · refine (Q_iconst (v := 1) zm_34 (Or.inl (by decide)) D34_50 (by decide)).trans ?_
    refine (Q_goto (tgt := 55) zm_34 (Or.inl (by decide)) D34_51 (by decide)).trans ?_
    rfl

theorem b34_55 {d : Nat} {i1 : Int32} {i2 : Int32} {i3 : Int32} {s0 : Int32} {ia : Nat → Nat → Int32} {la : Nat → Nat → Int64} {pl dr : Nat} {cp : Option Nat} {cw : Option Nat} {rp : Nat} {K : Option Value → zHP → Prop}  : zWP (d + 1) 34 55 [some (.ref 1), some (.int i1), some (.int i2), some (.int i3), none] [.int s0] (ia, la, zRA pl dr cp cw (some rp)) K = (if i2 = 0 then zWP (d + 1) 34 74 [some (.ref 1), some (.int i1), some (.int i2), some (.int i3), some (.int s0)] [] (ia, la, zRA pl dr cp cw (some rp)) K else (if (9999 : Int32) < (ia 2 7) then zWM d 23 [.ref 1, .int (2 : Int32)] (ia, la, zRA pl dr cp cw (some rp)) (zK (d + 1) 34 93 [some (.ref 1), some (.int i1), some (.int i2), some (.int i3), some (.int s0)] [] K) else zWP (d + 1) 34 74 [some (.ref 1), some (.int i1), some (.int i2), some (.int i3), some (.int s0)] [] (ia, la, zRA pl dr cp cw (some rp)) K)) := by
  refine (Q_istore (ls' := [some (.ref 1), some (.int i1), some (.int i2), some (.int i3), some (.int s0)]) zm_34 (Or.inl (by decide)) D34_55 rfl (Nat.le_of_ble_eq_true rfl) rfl).trans ?_
  refine (Q_iload_n zm_34 (Or.inl (by decide)) D34_57 rfl).trans ?_
  refine (Q_if_eq (tgt := 74) zm_34 (Or.inl (by decide)) D34_58 (by decide)).trans ?_
  refine zif_c (fun h0_ => ?_) (fun h0_ => ?_)
  · rfl
  · refine (Q_aload_n zm_34 (Or.inl (by decide)) D34_61 rfl).trans ?_
    refine (Q_getR (q := 2) zm_34 (Or.inl (by decide)) D34_62 zf_4_12 zs_4_0 zk_1.1 rfl).trans ?_
    refine (Q_getI zm_34 (Or.inl (by decide)) D34_65 zf_4_81 (Or.inl zs_7_7) zk_2.1).trans ?_
    refine (Q_sipush (v := 9999) zm_34 (Or.inl (by decide)) D34_68 (by decide)).trans ?_
    refine (Q_ic_gt (tgt := 88) zm_34 (Or.inl (by decide)) D34_71 (by decide)).trans ?_
    refine zif_c (fun h1_ => ?_) (fun h1_ => ?_)
    · refine (Q_aload_n zm_34 (Or.inl (by decide)) D34_88 rfl).trans ?_
      refine (Q_iconst (v := 2) zm_34 (Or.inl (by decide)) D34_89 (by decide)).trans ?_
      exact Q_callv (as := [.int (2 : Int32)]) (b := 1) (rest := []) zm_34 (Or.inl (by decide)) D34_90 zc_4_78 rfl zk_1.1 (by decide) (by decide +kernel) (by decide) (by simp [zcat, Value.category]) zm_23 rfl
    · rfl

theorem b34_74 {d : Nat} {i1 : Int32} {i2 : Int32} {i3 : Int32} {i4 : Int32} {ia : Nat → Nat → Int32} {la : Nat → Nat → Int64} {pl dr : Nat} {cp : Option Nat} {cw : Option Nat} {rp : Nat} {K : Option Value → zHP → Prop}  : zWP (d + 1) 34 74 [some (.ref 1), some (.int i1), some (.int i2), some (.int i3), some (.int i4)] [] (ia, la, zRA pl dr cp cw (some rp)) K = (if ¬ i1 = (5 : Int32) then zWP (d + 1) 34 93 [some (.ref 1), some (.int i1), some (.int i2), some (.int i3), some (.int i4)] [] (ia, la, zRA pl dr cp cw (some rp)) K else (if (ia 1 7) < (8 : Int32) then zWP (d + 1) 34 93 [some (.ref 1), some (.int i1), some (.int i2), some (.int i3), some (.int i4)] [] (ia, la, zRA pl dr cp cw (some rp)) K else zWM d 23 [.ref 1, .int (2 : Int32)] (ia, la, zRA pl dr cp cw (some rp)) (zK (d + 1) 34 93 [some (.ref 1), some (.int i1), some (.int i2), some (.int i3), some (.int i4)] [] K))) := by
  refine (Q_iload_n zm_34 (Or.inl (by decide)) D34_74 rfl).trans ?_
  refine (Q_iconst (v := 5) zm_34 (Or.inl (by decide)) D34_75 (by decide)).trans ?_
  refine (Q_ic_ne (tgt := 93) zm_34 (Or.inl (by decide)) D34_76 (by decide)).trans ?_
  refine zif_c (fun h0_ => ?_) (fun h0_ => ?_)
  · rfl
  · refine (Q_aload_n zm_34 (Or.inl (by decide)) D34_79 rfl).trans ?_
    refine (Q_getI zm_34 (Or.inl (by decide)) D34_80 zf_4_137 (Or.inl zs_4_7) zk_1.1).trans ?_
    refine (Q_bipush (v := 8) zm_34 (Or.inl (by decide)) D34_83 (by decide)).trans ?_
    refine (Q_ic_lt (tgt := 93) zm_34 (Or.inl (by decide)) D34_85 (by decide)).trans ?_
    refine zif_c (fun h1_ => ?_) (fun h1_ => ?_)
    · rfl
    · refine (Q_aload_n zm_34 (Or.inl (by decide)) D34_88 rfl).trans ?_
      refine (Q_iconst (v := 2) zm_34 (Or.inl (by decide)) D34_89 (by decide)).trans ?_
      exact Q_callv (as := [.int (2 : Int32)]) (b := 1) (rest := []) zm_34 (Or.inl (by decide)) D34_90 zc_4_78 rfl zk_1.1 (by decide) (by decide +kernel) (by decide) (by simp [zcat, Value.category]) zm_23 rfl

theorem b34_93 {d : Nat} {i1 : Int32} {i2 : Int32} {i3 : Int32} {i4 : Int32} {ia : Nat → Nat → Int32} {la : Nat → Nat → Int64} {pl dr : Nat} {cp : Option Nat} {cw : Option Nat} {rp : Nat} {K : Option Value → zHP → Prop}  : zWP (d + 1) 34 93 [some (.ref 1), some (.int i1), some (.int i2), some (.int i3), some (.int i4)] [] (ia, la, zRA pl dr cp cw (some rp)) K = (if ¬ i2 = 0 then zWM d 38 [.ref 1] (ia, la, zRA pl dr cp cw (some rp)) (zK (d + 1) 34 110 [some (.ref 1), some (.int i1), some (.int i2), some (.int i3), some (.int i4)] [] K) else (if ¬ i3 = 0 then zWM d 38 [.ref 1] (ia, la, zRA pl dr cp cw (some rp)) (zK (d + 1) 34 110 [some (.ref 1), some (.int i1), some (.int i2), some (.int i3), some (.int i4)] [] K) else (if i4 = 0 then zWP (d + 1) 34 110 [some (.ref 1), some (.int i1), some (.int i2), some (.int i3), some (.int i4)] [] (ia, la, zRA pl dr cp cw (some rp)) K else zWM d 38 [.ref 1] (ia, la, zRA pl dr cp cw (some rp)) (zK (d + 1) 34 110 [some (.ref 1), some (.int i1), some (.int i2), some (.int i3), some (.int i4)] [] K)))) := by
  refine (Q_iload_n zm_34 (Or.inl (by decide)) D34_93 rfl).trans ?_
  refine (Q_if_ne (tgt := 106) zm_34 (Or.inl (by decide)) D34_94 (by decide)).trans ?_
  refine zif_c (fun h0_ => ?_) (fun h0_ => ?_)
  · refine (Q_aload_n zm_34 (Or.inl (by decide)) D34_106 rfl).trans ?_
    exact Q_callv (as := []) (b := 1) (rest := []) zm_34 (Or.inl (by decide)) D34_107 zc_4_156 rfl zk_1.1 (by decide) (by decide +kernel) (by decide) (by simp [zcat, Value.category]) zm_38 rfl
  · refine (Q_iload_n zm_34 (Or.inl (by decide)) D34_97 rfl).trans ?_
    refine (Q_if_ne (tgt := 106) zm_34 (Or.inl (by decide)) D34_98 (by decide)).trans ?_
    refine zif_c (fun h1_ => ?_) (fun h1_ => ?_)
    · refine (Q_aload_n zm_34 (Or.inl (by decide)) D34_106 rfl).trans ?_
      exact Q_callv (as := []) (b := 1) (rest := []) zm_34 (Or.inl (by decide)) D34_107 zc_4_156 rfl zk_1.1 (by decide) (by decide +kernel) (by decide) (by simp [zcat, Value.category]) zm_38 rfl
    · refine (Q_iload zm_34 (Or.inl (by decide)) D34_101 rfl).trans ?_
      refine (Q_if_eq (tgt := 110) zm_34 (Or.inl (by decide)) D34_103 (by decide)).trans ?_
      refine zif_c (fun h2_ => ?_) (fun h2_ => ?_)
      · rfl
      · refine (Q_aload_n zm_34 (Or.inl (by decide)) D34_106 rfl).trans ?_
        exact Q_callv (as := []) (b := 1) (rest := []) zm_34 (Or.inl (by decide)) D34_107 zc_4_156 rfl zk_1.1 (by decide) (by decide +kernel) (by decide) (by simp [zcat, Value.category]) zm_38 rfl

theorem b34_110 {d : Nat} {i1 : Int32} {i2 : Int32} {i3 : Int32} {i4 : Int32} {ia : Nat → Nat → Int32} {la : Nat → Nat → Int64} {pl dr : Nat} {cp : Option Nat} {cw : Option Nat} {rp : Nat} {K : Option Value → zHP → Prop}  : zWP (d + 1) 34 110 [some (.ref 1), some (.int i1), some (.int i2), some (.int i3), some (.int i4)] [] (ia, la, zRA pl dr cp cw (some rp)) K = (if ¬ i2 = 0 then zWM d 40 [.ref 1, .int i1, .int (ia 2 7)] (ia, la, zRA pl dr cp cw (some rp)) (zK (d + 1) 34 130 [some (.ref 1), some (.int i1), some (.int i2), some (.int i3), some (.int i4)] [] K) else (if i3 = 0 then (if i4 = 0 then (if ¬ i1 = (5 : Int32) then zWM d 23 [.ref 1, .int (1 : Int32)] (ia, la, zRA pl dr cp cw (some rp)) (zK (d + 1) 34 175 [some (.ref 1), some (.int i1), some (.int i2), some (.int i3), some (.int i4)] [] K) else zWM d 39 [.ref 1, .int (5 : Int32)] ((zu ia 1 7 ((ia 1 7) + (1 : Int32))), la, zRA pl dr cp cw (some rp)) (zK (d + 1) 34 167 [some (.ref 1), some (.int i1), some (.int i2), some (.int i3), some (.int i4)] [] K)) else zWM d 39 [.ref 1, .int (32 : Int32)] (ia, la, zRA pl dr cp cw (some rp)) (zK (d + 1) 34 144 [some (.ref 1), some (.int i1), some (.int i2), some (.int i3), some (.int i4)] [] K)) else zWM d 40 [.ref 1, .int i1, .int (ia 2 7)] (ia, la, zRA pl dr cp cw (some rp)) (zK (d + 1) 34 130 [some (.ref 1), some (.int i1), some (.int i2), some (.int i3), some (.int i4)] [] K))) := by
  refine (Q_iload_n zm_34 (Or.inl (by decide)) D34_110 rfl).trans ?_
  refine (Q_if_ne (tgt := 118) zm_34 (Or.inl (by decide)) D34_111 (by decide)).trans ?_
  refine zif_c (fun h0_ => ?_) (fun h0_ => ?_)
  · refine (Q_aload_n zm_34 (Or.inl (by decide)) D34_118 rfl).trans ?_
    refine (Q_iload_n zm_34 (Or.inl (by decide)) D34_119 rfl).trans ?_
    refine (Q_aload_n zm_34 (Or.inl (by decide)) D34_120 rfl).trans ?_
    refine (Q_getR (q := 2) zm_34 (Or.inl (by decide)) D34_121 zf_4_12 zs_4_0 zk_1.1 rfl).trans ?_
    refine (Q_getI zm_34 (Or.inl (by decide)) D34_124 zf_4_81 (Or.inl zs_7_7) zk_2.1).trans ?_
    exact Q_callv (as := [.int i1, .int (ia 2 7)]) (b := 1) (rest := []) zm_34 (Or.inl (by decide)) D34_127 zc_4_159 rfl zk_1.1 (by decide) (by decide +kernel) (by decide) (by simp [zcat, Value.category]) zm_40 rfl
  · refine (Q_iload_n zm_34 (Or.inl (by decide)) D34_114 rfl).trans ?_
    refine (Q_if_eq (tgt := 133) zm_34 (Or.inl (by decide)) D34_115 (by decide)).trans ?_
    refine zif_c (fun h1_ => ?_) (fun h1_ => ?_)
    · refine (Q_iload zm_34 (Or.inl (by decide)) D34_133 rfl).trans ?_
      refine (Q_if_eq (tgt := 147) zm_34 (Or.inl (by decide)) D34_135 (by decide)).trans ?_
      refine zif_c (fun h2_ => ?_) (fun h2_ => ?_)
      · refine (Q_iload_n zm_34 (Or.inl (by decide)) D34_147 rfl).trans ?_
        refine (Q_iconst (v := 5) zm_34 (Or.inl (by decide)) D34_148 (by decide)).trans ?_
        refine (Q_ic_ne (tgt := 170) zm_34 (Or.inl (by decide)) D34_149 (by decide)).trans ?_
        refine zif_c (fun h3_ => ?_) (fun h3_ => ?_)
        · refine (Q_aload_n zm_34 (Or.inl (by decide)) D34_170 rfl).trans ?_
          refine (Q_iconst (v := 1) zm_34 (Or.inl (by decide)) D34_171 (by decide)).trans ?_
          exact Q_callv (as := [.int (1 : Int32)]) (b := 1) (rest := []) zm_34 (Or.inl (by decide)) D34_172 zc_4_78 rfl zk_1.1 (by decide) (by decide +kernel) (by decide) (by simp [zcat, Value.category]) zm_23 rfl
        · refine (Q_aload_n zm_34 (Or.inl (by decide)) D34_152 rfl).trans ?_
          refine (Q_dup zm_34 (Or.inl (by decide)) D34_153 rfl).trans ?_
          refine (Q_getI zm_34 (Or.inl (by decide)) D34_154 zf_4_137 (Or.inl zs_4_7) zk_1.1).trans ?_
          refine (Q_iconst (v := 1) zm_34 (Or.inl (by decide)) D34_157 (by decide)).trans ?_
          refine (Q_iadd zm_34 (Or.inl (by decide)) D34_158).trans ?_
          refine (Q_putI zm_34 (Or.inl (by decide)) D34_159 zf_4_137 zs_4_7 rfl zk_1.1).trans ?_
          refine (Q_aload_n zm_34 (Or.inl (by decide)) D34_162 rfl).trans ?_
          refine (Q_iconst (v := 5) zm_34 (Or.inl (by decide)) D34_163 (by decide)).trans ?_
          exact Q_callv (as := [.int (5 : Int32)]) (b := 1) (rest := []) zm_34 (Or.inl (by decide)) D34_164 zc_4_163 rfl zk_1.1 (by decide) (by decide +kernel) (by decide) (by simp [zcat, Value.category]) zm_39 rfl
      · refine (Q_aload_n zm_34 (Or.inl (by decide)) D34_138 rfl).trans ?_
        refine (Q_bipush (v := 32) zm_34 (Or.inl (by decide)) D34_139 (by decide)).trans ?_
        exact Q_callv (as := [.int (32 : Int32)]) (b := 1) (rest := []) zm_34 (Or.inl (by decide)) D34_141 zc_4_163 rfl zk_1.1 (by decide) (by decide +kernel) (by decide) (by simp [zcat, Value.category]) zm_39 rfl
    · refine (Q_aload_n zm_34 (Or.inl (by decide)) D34_118 rfl).trans ?_
      refine (Q_iload_n zm_34 (Or.inl (by decide)) D34_119 rfl).trans ?_
      refine (Q_aload_n zm_34 (Or.inl (by decide)) D34_120 rfl).trans ?_
      refine (Q_getR (q := 2) zm_34 (Or.inl (by decide)) D34_121 zf_4_12 zs_4_0 zk_1.1 rfl).trans ?_
      refine (Q_getI zm_34 (Or.inl (by decide)) D34_124 zf_4_81 (Or.inl zs_7_7) zk_2.1).trans ?_
      exact Q_callv (as := [.int i1, .int (ia 2 7)]) (b := 1) (rest := []) zm_34 (Or.inl (by decide)) D34_127 zc_4_159 rfl zk_1.1 (by decide) (by decide +kernel) (by decide) (by simp [zcat, Value.category]) zm_40 rfl

theorem b34_130 {d : Nat} {i1 : Int32} {i2 : Int32} {i3 : Int32} {i4 : Int32} {ia : Nat → Nat → Int32} {la : Nat → Nat → Int64} {pl dr : Nat} {cp : Option Nat} {cw : Option Nat} {rp : Nat} {K : Option Value → zHP → Prop}  : zWP (d + 1) 34 130 [some (.ref 1), some (.int i1), some (.int i2), some (.int i3), some (.int i4)] [] (ia, la, zRA pl dr cp cw (some rp)) K = zWM d 24 [.ref 1, .int i1] (ia, la, zRA pl dr cp cw (some rp)) (zK (d + 1) 34 180 [some (.ref 1), some (.int i1), some (.int i2), some (.int i3), some (.int i4)] [] K) := by
  refine (Q_goto (tgt := 175) zm_34 (Or.inl (by decide)) D34_130 (by decide)).trans ?_
  refine (Q_aload_n zm_34 (Or.inl (by decide)) D34_175 rfl).trans ?_
  refine (Q_iload_n zm_34 (Or.inl (by decide)) D34_176 rfl).trans ?_
  exact Q_callv (as := [.int i1]) (b := 1) (rest := []) zm_34 (Or.inl (by decide)) D34_177 zc_4_66 rfl zk_1.1 (by decide) (by decide +kernel) (by decide) (by simp [zcat, Value.category]) zm_24 rfl

theorem b34_175 {d : Nat} {i1 : Int32} {i2 : Int32} {i3 : Int32} {i4 : Int32} {ia : Nat → Nat → Int32} {la : Nat → Nat → Int64} {pl dr : Nat} {cp : Option Nat} {cw : Option Nat} {rp : Nat} {K : Option Value → zHP → Prop}  : zWP (d + 1) 34 175 [some (.ref 1), some (.int i1), some (.int i2), some (.int i3), some (.int i4)] [] (ia, la, zRA pl dr cp cw (some rp)) K = zWM d 24 [.ref 1, .int i1] (ia, la, zRA pl dr cp cw (some rp)) (zK (d + 1) 34 180 [some (.ref 1), some (.int i1), some (.int i2), some (.int i3), some (.int i4)] [] K) := by
  refine (Q_aload_n zm_34 (Or.inl (by decide)) D34_175 rfl).trans ?_
  refine (Q_iload_n zm_34 (Or.inl (by decide)) D34_176 rfl).trans ?_
  exact Q_callv (as := [.int i1]) (b := 1) (rest := []) zm_34 (Or.inl (by decide)) D34_177 zc_4_66 rfl zk_1.1 (by decide) (by decide +kernel) (by decide) (by simp [zcat, Value.category]) zm_24 rfl

theorem b34_167 {d : Nat} {i1 : Int32} {i2 : Int32} {i3 : Int32} {i4 : Int32} {ia : Nat → Nat → Int32} {la : Nat → Nat → Int64} {pl dr : Nat} {cp : Option Nat} {cw : Option Nat} {rp : Nat} {K : Option Value → zHP → Prop}  : zWP (d + 1) 34 167 [some (.ref 1), some (.int i1), some (.int i2), some (.int i3), some (.int i4)] [] (ia, la, zRA pl dr cp cw (some rp)) K = zWM d 24 [.ref 1, .int i1] (ia, la, zRA pl dr cp cw (some rp)) (zK (d + 1) 34 180 [some (.ref 1), some (.int i1), some (.int i2), some (.int i3), some (.int i4)] [] K) := by
  refine (Q_goto (tgt := 175) zm_34 (Or.inl (by decide)) D34_167 (by decide)).trans ?_
  refine (Q_aload_n zm_34 (Or.inl (by decide)) D34_175 rfl).trans ?_
  refine (Q_iload_n zm_34 (Or.inl (by decide)) D34_176 rfl).trans ?_
  exact Q_callv (as := [.int i1]) (b := 1) (rest := []) zm_34 (Or.inl (by decide)) D34_177 zc_4_66 rfl zk_1.1 (by decide) (by decide +kernel) (by decide) (by simp [zcat, Value.category]) zm_24 rfl

theorem b34_144 {d : Nat} {i1 : Int32} {i2 : Int32} {i3 : Int32} {i4 : Int32} {ia : Nat → Nat → Int32} {la : Nat → Nat → Int64} {pl dr : Nat} {cp : Option Nat} {cw : Option Nat} {rp : Nat} {K : Option Value → zHP → Prop}  : zWP (d + 1) 34 144 [some (.ref 1), some (.int i1), some (.int i2), some (.int i3), some (.int i4)] [] (ia, la, zRA pl dr cp cw (some rp)) K = zWM d 24 [.ref 1, .int i1] (ia, la, zRA pl dr cp cw (some rp)) (zK (d + 1) 34 180 [some (.ref 1), some (.int i1), some (.int i2), some (.int i3), some (.int i4)] [] K) := by
  refine (Q_goto (tgt := 175) zm_34 (Or.inl (by decide)) D34_144 (by decide)).trans ?_
  refine (Q_aload_n zm_34 (Or.inl (by decide)) D34_175 rfl).trans ?_
  refine (Q_iload_n zm_34 (Or.inl (by decide)) D34_176 rfl).trans ?_
  exact Q_callv (as := [.int i1]) (b := 1) (rest := []) zm_34 (Or.inl (by decide)) D34_177 zc_4_66 rfl zk_1.1 (by decide) (by decide +kernel) (by decide) (by simp [zcat, Value.category]) zm_24 rfl

theorem b34_180 {d : Nat} {i1 : Int32} {i2 : Int32} {i3 : Int32} {i4 : Int32} {ia : Nat → Nat → Int32} {la : Nat → Nat → Int64} {pl dr : Nat} {cp : Option Nat} {cw : Option Nat} {rp : Nat} {K : Option Value → zHP → Prop}  : zWP d 34 180 [some (.ref 1), some (.int i1), some (.int i2), some (.int i3), some (.int i4)] [] (ia, la, zRA pl dr cp cw (some rp)) K = (if ¬ i2 = 0 then K (some (.int (0 : Int32))) (ia, la, zRA pl dr cp cw (some rp)) else (if ¬ i3 = 0 then K (some (.int (0 : Int32))) (ia, la, zRA pl dr cp cw (some rp)) else K (some (.int (1 : Int32))) (ia, la, zRA pl dr cp cw (some rp)))) := by
  refine (Q_iload_n zm_34 (Or.inl (by decide)) D34_180 rfl).trans ?_
  refine (Q_if_ne (tgt := 192) zm_34 (Or.inl (by decide)) D34_181 (by decide)).trans ?_
  refine zif_c (fun h0_ => ?_) (fun h0_ => ?_)
  · refine (Q_iconst (v := 0) zm_34 (Or.inl (by decide)) D34_192 (by decide)).trans ?_
    exact Q_zreturn zm_34 (Or.inl (by decide)) D34_193 rfl (by decide)
  · refine (Q_iload_n zm_34 (Or.inl (by decide)) D34_184 rfl).trans ?_
    refine (Q_if_ne (tgt := 192) zm_34 (Or.inl (by decide)) D34_185 (by decide)).trans ?_
    refine zif_c (fun h1_ => ?_) (fun h1_ => ?_)
    · refine (Q_iconst (v := 0) zm_34 (Or.inl (by decide)) D34_192 (by decide)).trans ?_
      exact Q_zreturn zm_34 (Or.inl (by decide)) D34_193 rfl (by decide)
    · refine (Q_iconst (v := 1) zm_34 (Or.inl (by decide)) D34_188 (by decide)).trans ?_
      refine (Q_goto (tgt := 193) zm_34 (Or.inl (by decide)) D34_189 (by decide)).trans ?_
      exact Q_zreturn zm_34 (Or.inl (by decide)) D34_193 rfl (by decide)

/-! HandsLet$Reader.mayDeny()Z -/
theorem D35_0 : decode prog_6_method_15_code 0 = .ok (.aload_n 0, 1) := by decide +kernel
theorem D35_1 : decode prog_6_method_15_code 1 = .ok (.getfield 134, 3) := by decide +kernel
theorem D35_4 : decode prog_6_method_15_code 4 = .ok (.ifCond .eq 25, 3) := by decide +kernel
theorem D35_7 : decode prog_6_method_15_code 7 = .ok (.aload_n 0, 1) := by decide +kernel
theorem D35_8 : decode prog_6_method_15_code 8 = .ok (.getfield 22, 3) := by decide +kernel
theorem D35_11 : decode prog_6_method_15_code 11 = .ok (.aload_n 0, 1) := by decide +kernel
theorem D35_12 : decode prog_6_method_15_code 12 = .ok (.getfield 134, 3) := by decide +kernel
theorem D35_15 : decode prog_6_method_15_code 15 = .ok (.iconst 1, 1) := by decide +kernel
theorem D35_16 : decode prog_6_method_15_code 16 = .ok (.isub, 1) := by decide +kernel
theorem D35_17 : decode prog_6_method_15_code 17 = .ok (.iaload, 1) := by decide +kernel
theorem D35_18 : decode prog_6_method_15_code 18 = .ok (.invokestatic 166, 3) := by decide +kernel
theorem D35_21 : decode prog_6_method_15_code 21 = .ok (.bipush 32, 2) := by decide +kernel
theorem D35_23 : decode prog_6_method_15_code 23 = .ok (.invokestatic 166, 3) := by decide +kernel
theorem D35_26 : decode prog_6_method_15_code 26 = .ok (.if_icmp .gt 7, 3) := by decide +kernel
theorem D35_29 : decode prog_6_method_15_code 29 = .ok (.iconst 1, 1) := by decide +kernel
theorem D35_30 : decode prog_6_method_15_code 30 = .ok (.goto 4, 3) := by decide +kernel
theorem D35_33 : decode prog_6_method_15_code 33 = .ok (.iconst 0, 1) := by decide +kernel
theorem D35_34 : decode prog_6_method_15_code 34 = .ok (.ireturn, 1) := by decide +kernel

theorem b35_0 {d : Nat}  {ia : Nat → Nat → Int32} {la : Nat → Nat → Int64} {pl dr : Nat} {cp : Option Nat} {cw : Option Nat} {rp : Nat} {K : Option Value → zHP → Prop}  : zWP (d + 1) 35 0 [some (.ref 1)] [] (ia, la, zRA pl dr cp cw (some rp)) K = (if (ia 1 6) = 0 then K (some (.int (1 : Int32))) (ia, la, zRA pl dr cp cw (some rp)) else (vp_in ((ia 1 6) - (1 : Int32)) 72 ∧ zWM d 42 [.int (ia 5 (((ia 1 6) - (1 : Int32))).toNatClampNeg)] (ia, la, zRA pl dr cp cw (some rp)) (zK (d + 1) 35 21 [some (.ref 1)] [] K))) := by
  refine (Q_aload_n zm_35 (Or.inl (by decide)) D35_0 rfl).trans ?_
  refine (Q_getI zm_35 (Or.inl (by decide)) D35_1 zf_4_134 (Or.inl zs_4_6) zk_1.1).trans ?_
  refine (Q_if_eq (tgt := 29) zm_35 (Or.inl (by decide)) D35_4 (by decide)).trans ?_
  refine zif_c (fun h0_ => ?_) (fun h0_ => ?_)
  · refine (Q_iconst (v := 1) zm_35 (Or.inl (by decide)) D35_29 (by decide)).trans ?_
    refine (Q_goto (tgt := 34) zm_35 (Or.inl (by decide)) D35_30 (by decide)).trans ?_
    exact Q_zreturn zm_35 (Or.inl (by decide)) D35_34 rfl (by decide)
  · refine (Q_aload_n zm_35 (Or.inl (by decide)) D35_7 rfl).trans ?_
    refine (Q_getR (q := 5) zm_35 (Or.inl (by decide)) D35_8 zf_4_22 zs_4_5 zk_1.1 rfl).trans ?_
    refine (Q_aload_n zm_35 (Or.inl (by decide)) D35_11 rfl).trans ?_
    refine (Q_getI zm_35 (Or.inl (by decide)) D35_12 zf_4_134 (Or.inl zs_4_6) zk_1.1).trans ?_
    refine (Q_iconst (v := 1) zm_35 (Or.inl (by decide)) D35_15 (by decide)).trans ?_
    refine (Q_isub zm_35 (Or.inl (by decide)) D35_16).trans ?_
    refine (Q_iaload zm_35 (Or.inl (by decide)) D35_17 zk_5.1 zk_5.2).trans ?_
    refine zand_c (fun h1_ => ?_)
    exact Q_calls (as := [.int (ia 5 (((ia 1 6) - (1 : Int32))).toNatClampNeg)]) (rest := []) zm_35 (Or.inl (by decide)) D35_18 zc_4_166 rfl (by decide) (by simp [zcat, Value.category]) zm_42 rfl

theorem b35_21 {d : Nat} {s0 : Int32} {ia : Nat → Nat → Int32} {la : Nat → Nat → Int64} {pl dr : Nat} {cp : Option Nat} {cw : Option Nat} {rp : Nat} {K : Option Value → zHP → Prop}  : zWP (d + 1) 35 21 [some (.ref 1)] [.int s0] (ia, la, zRA pl dr cp cw (some rp)) K = zWM d 42 [.int (32 : Int32)] (ia, la, zRA pl dr cp cw (some rp)) (zK (d + 1) 35 26 [some (.ref 1)] [.int s0] K) := by
  refine (Q_bipush (v := 32) zm_35 (Or.inl (by decide)) D35_21 (by decide)).trans ?_
  exact Q_calls (as := [.int (32 : Int32)]) (rest := [.int s0]) zm_35 (Or.inl (by decide)) D35_23 zc_4_166 rfl (by decide) (by simp [zcat, Value.category]) zm_42 rfl

theorem b35_26 {d : Nat} {s0 : Int32} {s1 : Int32} {ia : Nat → Nat → Int32} {la : Nat → Nat → Int64} {pl dr : Nat} {cp : Option Nat} {cw : Option Nat} {rp : Nat} {K : Option Value → zHP → Prop}  : zWP d 35 26 [some (.ref 1)] [.int s1, .int s0] (ia, la, zRA pl dr cp cw (some rp)) K = (if s1 < s0 then K (some (.int (0 : Int32))) (ia, la, zRA pl dr cp cw (some rp)) else K (some (.int (1 : Int32))) (ia, la, zRA pl dr cp cw (some rp))) := by
  refine (Q_ic_gt (tgt := 33) zm_35 (Or.inl (by decide)) D35_26 (by decide)).trans ?_
  refine zif_c (fun h0_ => ?_) (fun h0_ => ?_)
  · refine (Q_iconst (v := 0) zm_35 (Or.inl (by decide)) D35_33 (by decide)).trans ?_
    exact Q_zreturn zm_35 (Or.inl (by decide)) D35_34 rfl (by decide)
  · refine (Q_iconst (v := 1) zm_35 (Or.inl (by decide)) D35_29 (by decide)).trans ?_
    refine (Q_goto (tgt := 34) zm_35 (Or.inl (by decide)) D35_30 (by decide)).trans ?_
    exact Q_zreturn zm_35 (Or.inl (by decide)) D35_34 rfl (by decide)

/-! HandsLet$Reader.readJoint()Z -/
theorem D36_0 : decode prog_6_method_16_code 0 = .ok (.aload_n 0, 1) := by decide +kernel
theorem D36_1 : decode prog_6_method_16_code 1 = .ok (.getfield 12, 3) := by decide +kernel
theorem D36_4 : decode prog_6_method_16_code 4 = .ok (.getfield 48, 3) := by decide +kernel
theorem D36_7 : decode prog_6_method_16_code 7 = .ok (.istore_n 1, 1) := by decide +kernel
theorem D36_8 : decode prog_6_method_16_code 8 = .ok (.iload_n 1, 1) := by decide +kernel
theorem D36_9 : decode prog_6_method_16_code 9 = .ok (.invokestatic 166, 3) := by decide +kernel
theorem D36_12 : decode prog_6_method_16_code 12 = .ok (.istore_n 2, 1) := by decide +kernel
theorem D36_13 : decode prog_6_method_16_code 13 = .ok (.iload_n 1, 1) := by decide +kernel
theorem D36_14 : decode prog_6_method_16_code 14 = .ok (.bipush 6, 2) := by decide +kernel
theorem D36_16 : decode prog_6_method_16_code 16 = .ok (.if_icmp .ne 38, 3) := by decide +kernel
theorem D36_19 : decode prog_6_method_16_code 19 = .ok (.aload_n 0, 1) := by decide +kernel
theorem D36_20 : decode prog_6_method_16_code 20 = .ok (.getfield 137, 3) := by decide +kernel
theorem D36_23 : decode prog_6_method_16_code 23 = .ok (.ifCond .le 31, 3) := by decide +kernel
theorem D36_26 : decode prog_6_method_16_code 26 = .ok (.aload_n 0, 1) := by decide +kernel
theorem D36_27 : decode prog_6_method_16_code 27 = .ok (.iconst 1, 1) := by decide +kernel
theorem D36_28 : decode prog_6_method_16_code 28 = .ok (.invokevirtual 147, 3) := by decide +kernel
theorem D36_31 : decode prog_6_method_16_code 31 = .ok (.aload_n 0, 1) := by decide +kernel
theorem D36_32 : decode prog_6_method_16_code 32 = .ok (.dup, 1) := by decide +kernel
theorem D36_33 : decode prog_6_method_16_code 33 = .ok (.getfield 134, 3) := by decide +kernel
theorem D36_36 : decode prog_6_method_16_code 36 = .ok (.iconst 1, 1) := by decide +kernel
theorem D36_37 : decode prog_6_method_16_code 37 = .ok (.isub, 1) := by decide +kernel
theorem D36_38 : decode prog_6_method_16_code 38 = .ok (.putfield 134, 3) := by decide +kernel
theorem D36_41 : decode prog_6_method_16_code 41 = .ok (.aload_n 0, 1) := by decide +kernel
theorem D36_42 : decode prog_6_method_16_code 42 = .ok (.dup, 1) := by decide +kernel
theorem D36_43 : decode prog_6_method_16_code 43 = .ok (.getfield 137, 3) := by decide +kernel
theorem D36_46 : decode prog_6_method_16_code 46 = .ok (.iconst 1, 1) := by decide +kernel
theorem D36_47 : decode prog_6_method_16_code 47 = .ok (.isub, 1) := by decide +kernel
theorem D36_48 : decode prog_6_method_16_code 48 = .ok (.putfield 137, 3) := by decide +kernel
theorem D36_51 : decode prog_6_method_16_code 51 = .ok (.goto 27, 3) := by decide +kernel
theorem D36_54 : decode prog_6_method_16_code 54 = .ok (.iload_n 2, 1) := by decide +kernel
theorem D36_55 : decode prog_6_method_16_code 55 = .ok (.ifCond .eq 9, 3) := by decide +kernel
theorem D36_58 : decode prog_6_method_16_code 58 = .ok (.iload_n 1, 1) := by decide +kernel
theorem D36_59 : decode prog_6_method_16_code 59 = .ok (.bipush 32, 2) := by decide +kernel
theorem D36_61 : decode prog_6_method_16_code 61 = .ok (.if_icmp .ne 11, 3) := by decide +kernel
theorem D36_64 : decode prog_6_method_16_code 64 = .ok (.aload_n 0, 1) := by decide +kernel
theorem D36_65 : decode prog_6_method_16_code 65 = .ok (.iconst 1, 1) := by decide +kernel
theorem D36_66 : decode prog_6_method_16_code 66 = .ok (.invokevirtual 78, 3) := by decide +kernel
theorem D36_69 : decode prog_6_method_16_code 69 = .ok (.goto 9, 3) := by decide +kernel
theorem D36_72 : decode prog_6_method_16_code 72 = .ok (.aload_n 0, 1) := by decide +kernel
theorem D36_73 : decode prog_6_method_16_code 73 = .ok (.iload_n 1, 1) := by decide +kernel
theorem D36_74 : decode prog_6_method_16_code 74 = .ok (.iload_n 2, 1) := by decide +kernel
theorem D36_75 : decode prog_6_method_16_code 75 = .ok (.invokevirtual 169, 3) := by decide +kernel
theorem D36_78 : decode prog_6_method_16_code 78 = .ok (.aload_n 0, 1) := by decide +kernel
theorem D36_79 : decode prog_6_method_16_code 79 = .ok (.iload_n 1, 1) := by decide +kernel
theorem D36_80 : decode prog_6_method_16_code 80 = .ok (.invokevirtual 66, 3) := by decide +kernel
theorem D36_83 : decode prog_6_method_16_code 83 = .ok (.iload_n 1, 1) := by decide +kernel
theorem D36_84 : decode prog_6_method_16_code 84 = .ok (.bipush 6, 2) := by decide +kernel
theorem D36_86 : decode prog_6_method_16_code 86 = .ok (.if_icmp .eq 7, 3) := by decide +kernel
theorem D36_89 : decode prog_6_method_16_code 89 = .ok (.iconst 1, 1) := by decide +kernel
theorem D36_90 : decode prog_6_method_16_code 90 = .ok (.goto 4, 3) := by decide +kernel
theorem D36_93 : decode prog_6_method_16_code 93 = .ok (.iconst 0, 1) := by decide +kernel
theorem D36_94 : decode prog_6_method_16_code 94 = .ok (.ireturn, 1) := by decide +kernel

theorem b36_0 {d : Nat}  {ia : Nat → Nat → Int32} {la : Nat → Nat → Int64} {pl dr : Nat} {cp : Option Nat} {cw : Option Nat} {rp : Nat} {K : Option Value → zHP → Prop}  : zWP (d + 1) 36 0 [some (.ref 1), none, none] [] (ia, la, zRA pl dr cp cw (some rp)) K = zWM d 42 [.int (ia 2 5)] (ia, la, zRA pl dr cp cw (some rp)) (zK (d + 1) 36 12 [some (.ref 1), some (.int (ia 2 5)), none] [] K) := by
  refine (Q_aload_n zm_36 (Or.inl (by decide)) D36_0 rfl).trans ?_
  refine (Q_getR (q := 2) zm_36 (Or.inl (by decide)) D36_1 zf_4_12 zs_4_0 zk_1.1 rfl).trans ?_
  refine (Q_getI zm_36 (Or.inl (by decide)) D36_4 zf_4_48 (Or.inl zs_7_5) zk_2.1).trans ?_
  refine (Q_istore_n (ls' := [some (.ref 1), some (.int (ia 2 5)), none]) zm_36 (Or.inl (by decide)) D36_7 rfl (Nat.le_of_ble_eq_true rfl) rfl).trans ?_
  refine (Q_iload_n zm_36 (Or.inl (by decide)) D36_8 rfl).trans ?_
  exact Q_calls (as := [.int (ia 2 5)]) (rest := []) zm_36 (Or.inl (by decide)) D36_9 zc_4_166 rfl (by decide) (by simp [zcat, Value.category]) zm_42 rfl

theorem b36_12 {d : Nat} {i1 : Int32} {s0 : Int32} {ia : Nat → Nat → Int32} {la : Nat → Nat → Int64} {pl dr : Nat} {cp : Option Nat} {cw : Option Nat} {rp : Nat} {K : Option Value → zHP → Prop}  : zWP (d + 1) 36 12 [some (.ref 1), some (.int i1), none] [.int s0] (ia, la, zRA pl dr cp cw (some rp)) K = (if ¬ i1 = (6 : Int32) then zWP (d + 1) 36 54 [some (.ref 1), some (.int i1), some (.int s0)] [] (ia, la, zRA pl dr cp cw (some rp)) K else (if (ia 1 7) ≤ 0 then zWP (d + 1) 36 54 [some (.ref 1), some (.int i1), some (.int s0)] [] (ia, la, zRA pl dr cp cw (some rp)) K else zWM d 41 [.ref 1, .int (1 : Int32)] (ia, la, zRA pl dr cp cw (some rp)) (zK (d + 1) 36 31 [some (.ref 1), some (.int i1), some (.int s0)] [] K))) := by
  refine (Q_istore_n (ls' := [some (.ref 1), some (.int i1), some (.int s0)]) zm_36 (Or.inl (by decide)) D36_12 rfl (Nat.le_of_ble_eq_true rfl) rfl).trans ?_
  refine (Q_iload_n zm_36 (Or.inl (by decide)) D36_13 rfl).trans ?_
  refine (Q_bipush (v := 6) zm_36 (Or.inl (by decide)) D36_14 (by decide)).trans ?_
  refine (Q_ic_ne (tgt := 54) zm_36 (Or.inl (by decide)) D36_16 (by decide)).trans ?_
  refine zif_c (fun h0_ => ?_) (fun h0_ => ?_)
  · rfl
  · refine (Q_aload_n zm_36 (Or.inl (by decide)) D36_19 rfl).trans ?_
    refine (Q_getI zm_36 (Or.inl (by decide)) D36_20 zf_4_137 (Or.inl zs_4_7) zk_1.1).trans ?_
    refine (Q_if_le (tgt := 54) zm_36 (Or.inl (by decide)) D36_23 (by decide)).trans ?_
    refine zif_c (fun h1_ => ?_) (fun h1_ => ?_)
    · rfl
    · refine (Q_aload_n zm_36 (Or.inl (by decide)) D36_26 rfl).trans ?_
      refine (Q_iconst (v := 1) zm_36 (Or.inl (by decide)) D36_27 (by decide)).trans ?_
      exact Q_callv (as := [.int (1 : Int32)]) (b := 1) (rest := []) zm_36 (Or.inl (by decide)) D36_28 zc_4_147 rfl zk_1.1 (by decide) (by decide +kernel) (by decide) (by simp [zcat, Value.category]) zm_41 rfl

theorem b36_54 {d : Nat} {i1 : Int32} {i2 : Int32} {ia : Nat → Nat → Int32} {la : Nat → Nat → Int64} {pl dr : Nat} {cp : Option Nat} {cw : Option Nat} {rp : Nat} {K : Option Value → zHP → Prop}  : zWP (d + 1) 36 54 [some (.ref 1), some (.int i1), some (.int i2)] [] (ia, la, zRA pl dr cp cw (some rp)) K = (if i2 = 0 then zWM d 23 [.ref 1, .int (1 : Int32)] (ia, la, zRA pl dr cp cw (some rp)) (zK (d + 1) 36 69 [some (.ref 1), some (.int i1), some (.int i2)] [] K) else (if ¬ i1 = (32 : Int32) then zWM d 37 [.ref 1, .int i1, .int i2] (ia, la, zRA pl dr cp cw (some rp)) (zK (d + 1) 36 78 [some (.ref 1), some (.int i1), some (.int i2)] [] K) else zWM d 23 [.ref 1, .int (1 : Int32)] (ia, la, zRA pl dr cp cw (some rp)) (zK (d + 1) 36 69 [some (.ref 1), some (.int i1), some (.int i2)] [] K))) := by
  refine (Q_iload_n zm_36 (Or.inl (by decide)) D36_54 rfl).trans ?_
  refine (Q_if_eq (tgt := 64) zm_36 (Or.inl (by decide)) D36_55 (by decide)).trans ?_
  refine zif_c (fun h0_ => ?_) (fun h0_ => ?_)
  · refine (Q_aload_n zm_36 (Or.inl (by decide)) D36_64 rfl).trans ?_
    refine (Q_iconst (v := 1) zm_36 (Or.inl (by decide)) D36_65 (by decide)).trans ?_
    exact Q_callv (as := [.int (1 : Int32)]) (b := 1) (rest := []) zm_36 (Or.inl (by decide)) D36_66 zc_4_78 rfl zk_1.1 (by decide) (by decide +kernel) (by decide) (by simp [zcat, Value.category]) zm_23 rfl
  · refine (Q_iload_n zm_36 (Or.inl (by decide)) D36_58 rfl).trans ?_
    refine (Q_bipush (v := 32) zm_36 (Or.inl (by decide)) D36_59 (by decide)).trans ?_
    refine (Q_ic_ne (tgt := 72) zm_36 (Or.inl (by decide)) D36_61 (by decide)).trans ?_
    refine zif_c (fun h1_ => ?_) (fun h1_ => ?_)
    · refine (Q_aload_n zm_36 (Or.inl (by decide)) D36_72 rfl).trans ?_
      refine (Q_iload_n zm_36 (Or.inl (by decide)) D36_73 rfl).trans ?_
      refine (Q_iload_n zm_36 (Or.inl (by decide)) D36_74 rfl).trans ?_
      exact Q_callv (as := [.int i1, .int i2]) (b := 1) (rest := []) zm_36 (Or.inl (by decide)) D36_75 zc_4_169 rfl zk_1.1 (by decide) (by decide +kernel) (by decide) (by simp [zcat, Value.category]) zm_37 rfl
    · refine (Q_aload_n zm_36 (Or.inl (by decide)) D36_64 rfl).trans ?_
      refine (Q_iconst (v := 1) zm_36 (Or.inl (by decide)) D36_65 (by decide)).trans ?_
      exact Q_callv (as := [.int (1 : Int32)]) (b := 1) (rest := []) zm_36 (Or.inl (by decide)) D36_66 zc_4_78 rfl zk_1.1 (by decide) (by decide +kernel) (by decide) (by simp [zcat, Value.category]) zm_23 rfl

theorem b36_31 {d : Nat} {i1 : Int32} {i2 : Int32} {ia : Nat → Nat → Int32} {la : Nat → Nat → Int64} {pl dr : Nat} {cp : Option Nat} {cw : Option Nat} {rp : Nat} {K : Option Value → zHP → Prop}  : zWP (d + 1) 36 31 [some (.ref 1), some (.int i1), some (.int i2)] [] (ia, la, zRA pl dr cp cw (some rp)) K = zWM d 24 [.ref 1, .int i1] ((zu (zu ia 1 6 ((ia 1 6) - (1 : Int32))) 1 7 (((zu ia 1 6 ((ia 1 6) - (1 : Int32))) 1 7) - (1 : Int32))), la, zRA pl dr cp cw (some rp)) (zK (d + 1) 36 83 [some (.ref 1), some (.int i1), some (.int i2)] [] K) := by
  refine (Q_aload_n zm_36 (Or.inl (by decide)) D36_31 rfl).trans ?_
  refine (Q_dup zm_36 (Or.inl (by decide)) D36_32 rfl).trans ?_
  refine (Q_getI zm_36 (Or.inl (by decide)) D36_33 zf_4_134 (Or.inl zs_4_6) zk_1.1).trans ?_
  refine (Q_iconst (v := 1) zm_36 (Or.inl (by decide)) D36_36 (by decide)).trans ?_
  refine (Q_isub zm_36 (Or.inl (by decide)) D36_37).trans ?_
  refine (Q_putI zm_36 (Or.inl (by decide)) D36_38 zf_4_134 zs_4_6 rfl zk_1.1).trans ?_
  refine (Q_aload_n zm_36 (Or.inl (by decide)) D36_41 rfl).trans ?_
  refine (Q_dup zm_36 (Or.inl (by decide)) D36_42 rfl).trans ?_
  refine (Q_getI zm_36 (Or.inl (by decide)) D36_43 zf_4_137 (Or.inl zs_4_7) zk_1.1).trans ?_
  refine (Q_iconst (v := 1) zm_36 (Or.inl (by decide)) D36_46 (by decide)).trans ?_
  refine (Q_isub zm_36 (Or.inl (by decide)) D36_47).trans ?_
  refine (Q_putI zm_36 (Or.inl (by decide)) D36_48 zf_4_137 zs_4_7 rfl zk_1.1).trans ?_
  refine (Q_goto (tgt := 78) zm_36 (Or.inl (by decide)) D36_51 (by decide)).trans ?_
  refine (Q_aload_n zm_36 (Or.inl (by decide)) D36_78 rfl).trans ?_
  refine (Q_iload_n zm_36 (Or.inl (by decide)) D36_79 rfl).trans ?_
  exact Q_callv (as := [.int i1]) (b := 1) (rest := []) zm_36 (Or.inl (by decide)) D36_80 zc_4_66 rfl zk_1.1 (by decide) (by decide +kernel) (by decide) (by simp [zcat, Value.category]) zm_24 rfl

theorem b36_69 {d : Nat} {i1 : Int32} {i2 : Int32} {ia : Nat → Nat → Int32} {la : Nat → Nat → Int64} {pl dr : Nat} {cp : Option Nat} {cw : Option Nat} {rp : Nat} {K : Option Value → zHP → Prop}  : zWP (d + 1) 36 69 [some (.ref 1), some (.int i1), some (.int i2)] [] (ia, la, zRA pl dr cp cw (some rp)) K = zWM d 24 [.ref 1, .int i1] (ia, la, zRA pl dr cp cw (some rp)) (zK (d + 1) 36 83 [some (.ref 1), some (.int i1), some (.int i2)] [] K) := by
  refine (Q_goto (tgt := 78) zm_36 (Or.inl (by decide)) D36_69 (by decide)).trans ?_
  refine (Q_aload_n zm_36 (Or.inl (by decide)) D36_78 rfl).trans ?_
  refine (Q_iload_n zm_36 (Or.inl (by decide)) D36_79 rfl).trans ?_
  exact Q_callv (as := [.int i1]) (b := 1) (rest := []) zm_36 (Or.inl (by decide)) D36_80 zc_4_66 rfl zk_1.1 (by decide) (by decide +kernel) (by decide) (by simp [zcat, Value.category]) zm_24 rfl

theorem b36_78 {d : Nat} {i1 : Int32} {i2 : Int32} {ia : Nat → Nat → Int32} {la : Nat → Nat → Int64} {pl dr : Nat} {cp : Option Nat} {cw : Option Nat} {rp : Nat} {K : Option Value → zHP → Prop}  : zWP (d + 1) 36 78 [some (.ref 1), some (.int i1), some (.int i2)] [] (ia, la, zRA pl dr cp cw (some rp)) K = zWM d 24 [.ref 1, .int i1] (ia, la, zRA pl dr cp cw (some rp)) (zK (d + 1) 36 83 [some (.ref 1), some (.int i1), some (.int i2)] [] K) := by
  refine (Q_aload_n zm_36 (Or.inl (by decide)) D36_78 rfl).trans ?_
  refine (Q_iload_n zm_36 (Or.inl (by decide)) D36_79 rfl).trans ?_
  exact Q_callv (as := [.int i1]) (b := 1) (rest := []) zm_36 (Or.inl (by decide)) D36_80 zc_4_66 rfl zk_1.1 (by decide) (by decide +kernel) (by decide) (by simp [zcat, Value.category]) zm_24 rfl

theorem b36_83 {d : Nat} {i1 : Int32} {i2 : Int32} {ia : Nat → Nat → Int32} {la : Nat → Nat → Int64} {pl dr : Nat} {cp : Option Nat} {cw : Option Nat} {rp : Nat} {K : Option Value → zHP → Prop}  : zWP d 36 83 [some (.ref 1), some (.int i1), some (.int i2)] [] (ia, la, zRA pl dr cp cw (some rp)) K = (if i1 = (6 : Int32) then K (some (.int (0 : Int32))) (ia, la, zRA pl dr cp cw (some rp)) else K (some (.int (1 : Int32))) (ia, la, zRA pl dr cp cw (some rp))) := by
  refine (Q_iload_n zm_36 (Or.inl (by decide)) D36_83 rfl).trans ?_
  refine (Q_bipush (v := 6) zm_36 (Or.inl (by decide)) D36_84 (by decide)).trans ?_
  refine (Q_ic_eq (tgt := 93) zm_36 (Or.inl (by decide)) D36_86 (by decide)).trans ?_
  refine zif_c (fun h0_ => ?_) (fun h0_ => ?_)
  · refine (Q_iconst (v := 0) zm_36 (Or.inl (by decide)) D36_93 (by decide)).trans ?_
    exact Q_zreturn zm_36 (Or.inl (by decide)) D36_94 rfl (by decide)
  · refine (Q_iconst (v := 1) zm_36 (Or.inl (by decide)) D36_89 (by decide)).trans ?_
    refine (Q_goto (tgt := 94) zm_36 (Or.inl (by decide)) D36_90 (by decide)).trans ?_
    exact Q_zreturn zm_36 (Or.inl (by decide)) D36_94 rfl (by decide)

/-! HandsLet$Reader.holdJoint(II)V -/
theorem D37_0 : decode prog_6_method_17_code 0 = .ok (.aload_n 0, 1) := by decide +kernel
theorem D37_1 : decode prog_6_method_17_code 1 = .ok (.iload_n 2, 1) := by decide +kernel
theorem D37_2 : decode prog_6_method_17_code 2 = .ok (.iconst 1, 1) := by decide +kernel
theorem D37_3 : decode prog_6_method_17_code 3 = .ok (.iadd, 1) := by decide +kernel
theorem D37_4 : decode prog_6_method_17_code 4 = .ok (.invokevirtual 147, 3) := by decide +kernel
theorem D37_7 : decode prog_6_method_17_code 7 = .ok (.aload_n 0, 1) := by decide +kernel
theorem D37_8 : decode prog_6_method_17_code 8 = .ok (.getfield 134, 3) := by decide +kernel
theorem D37_11 : decode prog_6_method_17_code 11 = .ok (.ifCond .le 25, 3) := by decide +kernel
theorem D37_14 : decode prog_6_method_17_code 14 = .ok (.aload_n 0, 1) := by decide +kernel
theorem D37_15 : decode prog_6_method_17_code 15 = .ok (.getfield 22, 3) := by decide +kernel
theorem D37_18 : decode prog_6_method_17_code 18 = .ok (.aload_n 0, 1) := by decide +kernel
theorem D37_19 : decode prog_6_method_17_code 19 = .ok (.getfield 134, 3) := by decide +kernel
theorem D37_22 : decode prog_6_method_17_code 22 = .ok (.iconst 1, 1) := by decide +kernel
theorem D37_23 : decode prog_6_method_17_code 23 = .ok (.isub, 1) := by decide +kernel
theorem D37_24 : decode prog_6_method_17_code 24 = .ok (.iaload, 1) := by decide +kernel
theorem D37_25 : decode prog_6_method_17_code 25 = .ok (.invokestatic 166, 3) := by decide +kernel
theorem D37_28 : decode prog_6_method_17_code 28 = .ok (.iload_n 2, 1) := by decide +kernel
theorem D37_29 : decode prog_6_method_17_code 29 = .ok (.if_icmp .ne 7, 3) := by decide +kernel
theorem D37_32 : decode prog_6_method_17_code 32 = .ok (.iconst 1, 1) := by decide +kernel
theorem D37_33 : decode prog_6_method_17_code 33 = .ok (.goto 4, 3) := by decide +kernel
theorem D37_36 : decode prog_6_method_17_code 36 = .ok (.iconst 0, 1) := by decide +kernel
theorem D37_37 : decode prog_6_method_17_code 37 = .ok (.istore_n 3, 1) := by decide +kernel
theorem D37_38 : decode prog_6_method_17_code 38 = .ok (.iload_n 3, 1) := by decide +kernel
theorem D37_39 : decode prog_6_method_17_code 39 = .ok (.ifCond .eq 17, 3) := by decide +kernel
theorem D37_42 : decode prog_6_method_17_code 42 = .ok (.iload_n 2, 1) := by decide +kernel
theorem D37_43 : decode prog_6_method_17_code 43 = .ok (.bipush 9, 2) := by decide +kernel
theorem D37_45 : decode prog_6_method_17_code 45 = .ok (.invokestatic 166, 3) := by decide +kernel
theorem D37_48 : decode prog_6_method_17_code 48 = .ok (.if_icmp .ne 8, 3) := by decide +kernel
theorem D37_51 : decode prog_6_method_17_code 51 = .ok (.aload_n 0, 1) := by decide +kernel
theorem D37_52 : decode prog_6_method_17_code 52 = .ok (.iconst 1, 1) := by decide +kernel
theorem D37_53 : decode prog_6_method_17_code 53 = .ok (.invokevirtual 78, 3) := by decide +kernel
theorem D37_56 : decode prog_6_method_17_code 56 = .ok (.aload_n 0, 1) := by decide +kernel
theorem D37_57 : decode prog_6_method_17_code 57 = .ok (.invokevirtual 156, 3) := by decide +kernel
theorem D37_60 : decode prog_6_method_17_code 60 = .ok (.aload_n 0, 1) := by decide +kernel
theorem D37_61 : decode prog_6_method_17_code 61 = .ok (.iload_n 2, 1) := by decide +kernel
theorem D37_62 : decode prog_6_method_17_code 62 = .ok (.invokevirtual 147, 3) := by decide +kernel
theorem D37_65 : decode prog_6_method_17_code 65 = .ok (.aload_n 0, 1) := by decide +kernel
theorem D37_66 : decode prog_6_method_17_code 66 = .ok (.iload_n 1, 1) := by decide +kernel
theorem D37_67 : decode prog_6_method_17_code 67 = .ok (.invokevirtual 163, 3) := by decide +kernel
theorem D37_70 : decode prog_6_method_17_code 70 = .ok (.return_, 1) := by decide +kernel

theorem b37_0 {d : Nat} {i1 : Int32} {i2 : Int32} {ia : Nat → Nat → Int32} {la : Nat → Nat → Int64} {pl dr : Nat} {cp : Option Nat} {cw : Option Nat} {rp : Nat} {K : Option Value → zHP → Prop}  : zWP (d + 1) 37 0 [some (.ref 1), some (.int i1), some (.int i2), none] [] (ia, la, zRA pl dr cp cw (some rp)) K = zWM d 41 [.ref 1, .int (i2 + (1 : Int32))] (ia, la, zRA pl dr cp cw (some rp)) (zK (d + 1) 37 7 [some (.ref 1), some (.int i1), some (.int i2), none] [] K) := by
  refine (Q_aload_n zm_37 (Or.inl (by decide)) D37_0 rfl).trans ?_
  refine (Q_iload_n zm_37 (Or.inl (by decide)) D37_1 rfl).trans ?_
  refine (Q_iconst (v := 1) zm_37 (Or.inl (by decide)) D37_2 (by decide)).trans ?_
  refine (Q_iadd zm_37 (Or.inl (by decide)) D37_3).trans ?_
  exact Q_callv (as := [.int (i2 + (1 : Int32))]) (b := 1) (rest := []) zm_37 (Or.inl (by decide)) D37_4 zc_4_147 rfl zk_1.1 (by decide) (by decide +kernel) (by decide) (by simp [zcat, Value.category]) zm_41 rfl

theorem b37_7 {d : Nat} {i1 : Int32} {i2 : Int32} {ia : Nat → Nat → Int32} {la : Nat → Nat → Int64} {pl dr : Nat} {cp : Option Nat} {cw : Option Nat} {rp : Nat} {K : Option Value → zHP → Prop}  : zWP (d + 1) 37 7 [some (.ref 1), some (.int i1), some (.int i2), none] [] (ia, la, zRA pl dr cp cw (some rp)) K = (if (ia 1 6) ≤ 0 then zWM d 38 [.ref 1] (ia, la, zRA pl dr cp cw (some rp)) (zK (d + 1) 37 60 [some (.ref 1), some (.int i1), some (.int i2), some (.int (0 : Int32))] [] K) else (vp_in ((ia 1 6) - (1 : Int32)) 72 ∧ zWM d 42 [.int (ia 5 (((ia 1 6) - (1 : Int32))).toNatClampNeg)] (ia, la, zRA pl dr cp cw (some rp)) (zK (d + 1) 37 28 [some (.ref 1), some (.int i1), some (.int i2), none] [] K))) := by
  refine (Q_aload_n zm_37 (Or.inl (by decide)) D37_7 rfl).trans ?_
  refine (Q_getI zm_37 (Or.inl (by decide)) D37_8 zf_4_134 (Or.inl zs_4_6) zk_1.1).trans ?_
  refine (Q_if_le (tgt := 36) zm_37 (Or.inl (by decide)) D37_11 (by decide)).trans ?_
  refine zif_c (fun h0_ => ?_) (fun h0_ => ?_)
  · refine (Q_iconst (v := 0) zm_37 (Or.inl (by decide)) D37_36 (by decide)).trans ?_
    refine (Q_istore_n (ls' := [some (.ref 1), some (.int i1), some (.int i2), some (.int (0 : Int32))]) zm_37 (Or.inl (by decide)) D37_37 rfl (Nat.le_of_ble_eq_true rfl) rfl).trans ?_
    refine (Q_iload_n zm_37 (Or.inl (by decide)) D37_38 rfl).trans ?_
    refine ((Q_if_eq (tgt := 56) zm_37 (Or.inl (by decide)) D37_39 (by decide)).trans (if_pos (by decide))).trans ?_
    refine (Q_aload_n zm_37 (Or.inl (by decide)) D37_56 rfl).trans ?_
    exact Q_callv (as := []) (b := 1) (rest := []) zm_37 (Or.inl (by decide)) D37_57 zc_4_156 rfl zk_1.1 (by decide) (by decide +kernel) (by decide) (by simp [zcat, Value.category]) zm_38 rfl
  · refine (Q_aload_n zm_37 (Or.inl (by decide)) D37_14 rfl).trans ?_
    refine (Q_getR (q := 5) zm_37 (Or.inl (by decide)) D37_15 zf_4_22 zs_4_5 zk_1.1 rfl).trans ?_
    refine (Q_aload_n zm_37 (Or.inl (by decide)) D37_18 rfl).trans ?_
    refine (Q_getI zm_37 (Or.inl (by decide)) D37_19 zf_4_134 (Or.inl zs_4_6) zk_1.1).trans ?_
    refine (Q_iconst (v := 1) zm_37 (Or.inl (by decide)) D37_22 (by decide)).trans ?_
    refine (Q_isub zm_37 (Or.inl (by decide)) D37_23).trans ?_
    refine (Q_iaload zm_37 (Or.inl (by decide)) D37_24 zk_5.1 zk_5.2).trans ?_
    refine zand_c (fun h1_ => ?_)
    exact Q_calls (as := [.int (ia 5 (((ia 1 6) - (1 : Int32))).toNatClampNeg)]) (rest := []) zm_37 (Or.inl (by decide)) D37_25 zc_4_166 rfl (by decide) (by simp [zcat, Value.category]) zm_42 rfl

theorem b37_60 {d : Nat} {i1 : Int32} {i2 : Int32} {i3 : Int32} {ia : Nat → Nat → Int32} {la : Nat → Nat → Int64} {pl dr : Nat} {cp : Option Nat} {cw : Option Nat} {rp : Nat} {K : Option Value → zHP → Prop}  : zWP (d + 1) 37 60 [some (.ref 1), some (.int i1), some (.int i2), some (.int i3)] [] (ia, la, zRA pl dr cp cw (some rp)) K = zWM d 41 [.ref 1, .int i2] (ia, la, zRA pl dr cp cw (some rp)) (zK (d + 1) 37 65 [some (.ref 1), some (.int i1), some (.int i2), some (.int i3)] [] K) := by
  refine (Q_aload_n zm_37 (Or.inl (by decide)) D37_60 rfl).trans ?_
  refine (Q_iload_n zm_37 (Or.inl (by decide)) D37_61 rfl).trans ?_
  exact Q_callv (as := [.int i2]) (b := 1) (rest := []) zm_37 (Or.inl (by decide)) D37_62 zc_4_147 rfl zk_1.1 (by decide) (by decide +kernel) (by decide) (by simp [zcat, Value.category]) zm_41 rfl

theorem b37_28 {d : Nat} {i1 : Int32} {i2 : Int32} {s0 : Int32} {ia : Nat → Nat → Int32} {la : Nat → Nat → Int64} {pl dr : Nat} {cp : Option Nat} {cw : Option Nat} {rp : Nat} {K : Option Value → zHP → Prop}  : zWP (d + 1) 37 28 [some (.ref 1), some (.int i1), some (.int i2), none] [.int s0] (ia, la, zRA pl dr cp cw (some rp)) K = (if ¬ s0 = i2 then zWM d 38 [.ref 1] (ia, la, zRA pl dr cp cw (some rp)) (zK (d + 1) 37 60 [some (.ref 1), some (.int i1), some (.int i2), some (.int (0 : Int32))] [] K) else zWM d 42 [.int (9 : Int32)] (ia, la, zRA pl dr cp cw (some rp)) (zK (d + 1) 37 48 [some (.ref 1), some (.int i1), some (.int i2), some (.int (1 : Int32))] [.int i2] K)) := by
  refine (Q_iload_n zm_37 (Or.inl (by decide)) D37_28 rfl).trans ?_
  refine (Q_ic_ne (tgt := 36) zm_37 (Or.inl (by decide)) D37_29 (by decide)).trans ?_
  refine zif_c (fun h0_ => ?_) (fun h0_ => ?_)
  · refine (Q_iconst (v := 0) zm_37 (Or.inl (by decide)) D37_36 (by decide)).trans ?_
    refine (Q_istore_n (ls' := [some (.ref 1), some (.int i1), some (.int i2), some (.int (0 : Int32))]) zm_37 (Or.inl (by decide)) D37_37 rfl (Nat.le_of_ble_eq_true rfl) rfl).trans ?_
    refine (Q_iload_n zm_37 (Or.inl (by decide)) D37_38 rfl).trans ?_
    refine ((Q_if_eq (tgt := 56) zm_37 (Or.inl (by decide)) D37_39 (by decide)).trans (if_pos (by decide))).trans ?_
    refine (Q_aload_n zm_37 (Or.inl (by decide)) D37_56 rfl).trans ?_
    exact Q_callv (as := []) (b := 1) (rest := []) zm_37 (Or.inl (by decide)) D37_57 zc_4_156 rfl zk_1.1 (by decide) (by decide +kernel) (by decide) (by simp [zcat, Value.category]) zm_38 rfl
  · refine (Q_iconst (v := 1) zm_37 (Or.inl (by decide)) D37_32 (by decide)).trans ?_
    refine (Q_goto (tgt := 37) zm_37 (Or.inl (by decide)) D37_33 (by decide)).trans ?_
    refine (Q_istore_n (ls' := [some (.ref 1), some (.int i1), some (.int i2), some (.int (1 : Int32))]) zm_37 (Or.inl (by decide)) D37_37 rfl (Nat.le_of_ble_eq_true rfl) rfl).trans ?_
    refine (Q_iload_n zm_37 (Or.inl (by decide)) D37_38 rfl).trans ?_
    refine ((Q_if_eq (tgt := 56) zm_37 (Or.inl (by decide)) D37_39 (by decide)).trans (if_neg (by decide))).trans ?_
    refine (Q_iload_n zm_37 (Or.inl (by decide)) D37_42 rfl).trans ?_
    refine (Q_bipush (v := 9) zm_37 (Or.inl (by decide)) D37_43 (by decide)).trans ?_
    exact Q_calls (as := [.int (9 : Int32)]) (rest := [.int i2]) zm_37 (Or.inl (by decide)) D37_45 zc_4_166 rfl (by decide) (by simp [zcat, Value.category]) zm_42 rfl

theorem b37_65 {d : Nat} {i1 : Int32} {i2 : Int32} {i3 : Int32} {ia : Nat → Nat → Int32} {la : Nat → Nat → Int64} {pl dr : Nat} {cp : Option Nat} {cw : Option Nat} {rp : Nat} {K : Option Value → zHP → Prop}  : zWP (d + 1) 37 65 [some (.ref 1), some (.int i1), some (.int i2), some (.int i3)] [] (ia, la, zRA pl dr cp cw (some rp)) K = zWM d 39 [.ref 1, .int i1] (ia, la, zRA pl dr cp cw (some rp)) (zK (d + 1) 37 70 [some (.ref 1), some (.int i1), some (.int i2), some (.int i3)] [] K) := by
  refine (Q_aload_n zm_37 (Or.inl (by decide)) D37_65 rfl).trans ?_
  refine (Q_iload_n zm_37 (Or.inl (by decide)) D37_66 rfl).trans ?_
  exact Q_callv (as := [.int i1]) (b := 1) (rest := []) zm_37 (Or.inl (by decide)) D37_67 zc_4_163 rfl zk_1.1 (by decide) (by decide +kernel) (by decide) (by simp [zcat, Value.category]) zm_39 rfl

theorem b37_48 {d : Nat} {i1 : Int32} {i2 : Int32} {i3 : Int32} {s0 : Int32} {s1 : Int32} {ia : Nat → Nat → Int32} {la : Nat → Nat → Int64} {pl dr : Nat} {cp : Option Nat} {cw : Option Nat} {rp : Nat} {K : Option Value → zHP → Prop}  : zWP (d + 1) 37 48 [some (.ref 1), some (.int i1), some (.int i2), some (.int i3)] [.int s1, .int s0] (ia, la, zRA pl dr cp cw (some rp)) K = (if ¬ s0 = s1 then zWM d 38 [.ref 1] (ia, la, zRA pl dr cp cw (some rp)) (zK (d + 1) 37 60 [some (.ref 1), some (.int i1), some (.int i2), some (.int i3)] [] K) else zWM d 23 [.ref 1, .int (1 : Int32)] (ia, la, zRA pl dr cp cw (some rp)) (zK (d + 1) 37 56 [some (.ref 1), some (.int i1), some (.int i2), some (.int i3)] [] K)) := by
  refine (Q_ic_ne (tgt := 56) zm_37 (Or.inl (by decide)) D37_48 (by decide)).trans ?_
  refine zif_c (fun h0_ => ?_) (fun h0_ => ?_)
  · refine (Q_aload_n zm_37 (Or.inl (by decide)) D37_56 rfl).trans ?_
    exact Q_callv (as := []) (b := 1) (rest := []) zm_37 (Or.inl (by decide)) D37_57 zc_4_156 rfl zk_1.1 (by decide) (by decide +kernel) (by decide) (by simp [zcat, Value.category]) zm_38 rfl
  · refine (Q_aload_n zm_37 (Or.inl (by decide)) D37_51 rfl).trans ?_
    refine (Q_iconst (v := 1) zm_37 (Or.inl (by decide)) D37_52 (by decide)).trans ?_
    exact Q_callv (as := [.int (1 : Int32)]) (b := 1) (rest := []) zm_37 (Or.inl (by decide)) D37_53 zc_4_78 rfl zk_1.1 (by decide) (by decide +kernel) (by decide) (by simp [zcat, Value.category]) zm_23 rfl

theorem b37_70 {d : Nat} {i1 : Int32} {i2 : Int32} {i3 : Int32} {ia : Nat → Nat → Int32} {la : Nat → Nat → Int64} {pl dr : Nat} {cp : Option Nat} {cw : Option Nat} {rp : Nat} {K : Option Value → zHP → Prop}  : zWP d 37 70 [some (.ref 1), some (.int i1), some (.int i2), some (.int i3)] [] (ia, la, zRA pl dr cp cw (some rp)) K = K none (ia, la, zRA pl dr cp cw (some rp)) := by
  exact Q_return zm_37 (Or.inl (by decide)) D37_70 rfl

theorem b37_56 {d : Nat} {i1 : Int32} {i2 : Int32} {i3 : Int32} {ia : Nat → Nat → Int32} {la : Nat → Nat → Int64} {pl dr : Nat} {cp : Option Nat} {cw : Option Nat} {rp : Nat} {K : Option Value → zHP → Prop}  : zWP (d + 1) 37 56 [some (.ref 1), some (.int i1), some (.int i2), some (.int i3)] [] (ia, la, zRA pl dr cp cw (some rp)) K = zWM d 38 [.ref 1] (ia, la, zRA pl dr cp cw (some rp)) (zK (d + 1) 37 60 [some (.ref 1), some (.int i1), some (.int i2), some (.int i3)] [] K) := by
  refine (Q_aload_n zm_37 (Or.inl (by decide)) D37_56 rfl).trans ?_
  exact Q_callv (as := []) (b := 1) (rest := []) zm_37 (Or.inl (by decide)) D37_57 zc_4_156 rfl zk_1.1 (by decide) (by decide +kernel) (by decide) (by simp [zcat, Value.category]) zm_38 rfl

/-! HandsLet$Reader.countKnot()V -/
theorem D38_0 : decode prog_6_method_18_code 0 = .ok (.aload_n 0, 1) := by decide +kernel
theorem D38_1 : decode prog_6_method_18_code 1 = .ok (.getfield 26, 3) := by decide +kernel
theorem D38_4 : decode prog_6_method_18_code 4 = .ok (.getfield 172, 3) := by decide +kernel
theorem D38_7 : decode prog_6_method_18_code 7 = .ok (.bipush 64, 2) := by decide +kernel
theorem D38_9 : decode prog_6_method_18_code 9 = .ok (.if_icmp .lt 11, 3) := by decide +kernel
theorem D38_12 : decode prog_6_method_18_code 12 = .ok (.aload_n 0, 1) := by decide +kernel
theorem D38_13 : decode prog_6_method_18_code 13 = .ok (.iconst 2, 1) := by decide +kernel
theorem D38_14 : decode prog_6_method_18_code 14 = .ok (.invokevirtual 78, 3) := by decide +kernel
theorem D38_17 : decode prog_6_method_18_code 17 = .ok (.goto 16, 3) := by decide +kernel
theorem D38_20 : decode prog_6_method_18_code 20 = .ok (.aload_n 0, 1) := by decide +kernel
theorem D38_21 : decode prog_6_method_18_code 21 = .ok (.getfield 26, 3) := by decide +kernel
theorem D38_24 : decode prog_6_method_18_code 24 = .ok (.dup, 1) := by decide +kernel
theorem D38_25 : decode prog_6_method_18_code 25 = .ok (.getfield 172, 3) := by decide +kernel
theorem D38_28 : decode prog_6_method_18_code 28 = .ok (.iconst 1, 1) := by decide +kernel
theorem D38_29 : decode prog_6_method_18_code 29 = .ok (.iadd, 1) := by decide +kernel
theorem D38_30 : decode prog_6_method_18_code 30 = .ok (.putfield 172, 3) := by decide +kernel
theorem D38_33 : decode prog_6_method_18_code 33 = .ok (.return_, 1) := by decide +kernel

theorem b38_0 {d : Nat}  {ia : Nat → Nat → Int32} {la : Nat → Nat → Int64} {pl dr : Nat} {cp : Option Nat} {cw : Option Nat} {rp : Nat} {K : Option Value → zHP → Prop} (hrp : zIsP rp) : zWP (d + 1) 38 0 [some (.ref 1)] [] (ia, la, zRA pl dr cp cw (some rp)) K = (if (ia rp 4) < (64 : Int32) then K none ((zu ia rp 4 ((ia rp 4) + (1 : Int32))), la, zRA pl dr cp cw (some rp)) else zWM d 23 [.ref 1, .int (2 : Int32)] (ia, la, zRA pl dr cp cw (some rp)) (zK (d + 1) 38 17 [some (.ref 1)] [] K)) := by
  refine (Q_aload_n zm_38 (Or.inl (by decide)) D38_0 rfl).trans ?_
  refine (Q_getR (q := rp) zm_38 (Or.inl (by decide)) D38_1 zf_4_26 zs_4_1 zk_1.1 rfl).trans ?_
  refine (Q_getI zm_38 (Or.inl (by decide)) D38_4 zf_4_172 (Or.inl zs_3_4) (zkp_0 hrp).1).trans ?_
  refine (Q_bipush (v := 64) zm_38 (Or.inl (by decide)) D38_7 (by decide)).trans ?_
  refine (Q_ic_lt (tgt := 20) zm_38 (Or.inl (by decide)) D38_9 (by decide)).trans ?_
  refine zif_c (fun h0_ => ?_) (fun h0_ => ?_)
  · refine (Q_aload_n zm_38 (Or.inl (by decide)) D38_20 rfl).trans ?_
    refine (Q_getR (q := rp) zm_38 (Or.inl (by decide)) D38_21 zf_4_26 zs_4_1 zk_1.1 rfl).trans ?_
    refine (Q_dup zm_38 (Or.inl (by decide)) D38_24 rfl).trans ?_
    refine (Q_getI zm_38 (Or.inl (by decide)) D38_25 zf_4_172 (Or.inl zs_3_4) (zkp_0 hrp).1).trans ?_
    refine (Q_iconst (v := 1) zm_38 (Or.inl (by decide)) D38_28 (by decide)).trans ?_
    refine (Q_iadd zm_38 (Or.inl (by decide)) D38_29).trans ?_
    refine (Q_putI zm_38 (Or.inl (by decide)) D38_30 zf_4_172 zs_3_4 rfl (zkp_0 hrp).1).trans ?_
    exact Q_return zm_38 (Or.inl (by decide)) D38_33 rfl
  · refine (Q_aload_n zm_38 (Or.inl (by decide)) D38_12 rfl).trans ?_
    refine (Q_iconst (v := 2) zm_38 (Or.inl (by decide)) D38_13 (by decide)).trans ?_
    exact Q_callv (as := [.int (2 : Int32)]) (b := 1) (rest := []) zm_38 (Or.inl (by decide)) D38_14 zc_4_78 rfl zk_1.1 (by decide) (by decide +kernel) (by decide) (by simp [zcat, Value.category]) zm_23 rfl

theorem b38_17 {d : Nat}  {ia : Nat → Nat → Int32} {la : Nat → Nat → Int64} {pl dr : Nat} {cp : Option Nat} {cw : Option Nat} {rp : Nat} {K : Option Value → zHP → Prop}  : zWP d 38 17 [some (.ref 1)] [] (ia, la, zRA pl dr cp cw (some rp)) K = K none (ia, la, zRA pl dr cp cw (some rp)) := by
  refine (Q_goto (tgt := 33) zm_38 (Or.inl (by decide)) D38_17 (by decide)).trans ?_
  exact Q_return zm_38 (Or.inl (by decide)) D38_33 rfl

/-! HandsLet$Reader.hold(I)V -/
theorem D39_0 : decode prog_6_method_19_code 0 = .ok (.aload_n 0, 1) := by decide +kernel
theorem D39_1 : decode prog_6_method_19_code 1 = .ok (.getfield 134, 3) := by decide +kernel
theorem D39_4 : decode prog_6_method_19_code 4 = .ok (.aload_n 0, 1) := by decide +kernel
theorem D39_5 : decode prog_6_method_19_code 5 = .ok (.getfield 22, 3) := by decide +kernel
theorem D39_8 : decode prog_6_method_19_code 8 = .ok (.arraylength, 1) := by decide +kernel
theorem D39_9 : decode prog_6_method_19_code 9 = .ok (.if_icmp .ge 23, 3) := by decide +kernel
theorem D39_12 : decode prog_6_method_19_code 12 = .ok (.aload_n 0, 1) := by decide +kernel
theorem D39_13 : decode prog_6_method_19_code 13 = .ok (.getfield 22, 3) := by decide +kernel
theorem D39_16 : decode prog_6_method_19_code 16 = .ok (.aload_n 0, 1) := by decide +kernel
theorem D39_17 : decode prog_6_method_19_code 17 = .ok (.getfield 134, 3) := by decide +kernel
theorem D39_20 : decode prog_6_method_19_code 20 = .ok (.iload_n 1, 1) := by decide +kernel
theorem D39_21 : decode prog_6_method_19_code 21 = .ok (.iastore, 1) := by decide +kernel
theorem D39_22 : decode prog_6_method_19_code 22 = .ok (.aload_n 0, 1) := by decide +kernel
theorem D39_23 : decode prog_6_method_19_code 23 = .ok (.dup, 1) := by decide +kernel
theorem D39_24 : decode prog_6_method_19_code 24 = .ok (.getfield 134, 3) := by decide +kernel
theorem D39_27 : decode prog_6_method_19_code 27 = .ok (.iconst 1, 1) := by decide +kernel
theorem D39_28 : decode prog_6_method_19_code 28 = .ok (.iadd, 1) := by decide +kernel
theorem D39_29 : decode prog_6_method_19_code 29 = .ok (.putfield 134, 3) := by decide +kernel
theorem D39_32 : decode prog_6_method_19_code 32 = .ok (.return_, 1) := by decide +kernel

theorem b39_0 {d : Nat} {i1 : Int32} {ia : Nat → Nat → Int32} {la : Nat → Nat → Int64} {pl dr : Nat} {cp : Option Nat} {cw : Option Nat} {rp : Nat} {K : Option Value → zHP → Prop}  : zWP d 39 0 [some (.ref 1), some (.int i1)] [] (ia, la, zRA pl dr cp cw (some rp)) K = (if (72 : Int32) ≤ (ia 1 6) then K none (ia, la, zRA pl dr cp cw (some rp)) else (vp_in (ia 1 6) 72 ∧ K none ((zu (zu ia 5 ((ia 1 6)).toNatClampNeg i1) 1 6 (((zu ia 5 ((ia 1 6)).toNatClampNeg i1) 1 6) + (1 : Int32))), la, zRA pl dr cp cw (some rp)))) := by
  refine (Q_aload_n zm_39 (Or.inl (by decide)) D39_0 rfl).trans ?_
  refine (Q_getI zm_39 (Or.inl (by decide)) D39_1 zf_4_134 (Or.inl zs_4_6) zk_1.1).trans ?_
  refine (Q_aload_n zm_39 (Or.inl (by decide)) D39_4 rfl).trans ?_
  refine (Q_getR (q := 5) zm_39 (Or.inl (by decide)) D39_5 zf_4_22 zs_4_5 zk_1.1 rfl).trans ?_
  refine (Q_alen (v := 72) zm_39 (Or.inl (by decide)) D39_8 zk_5.1 (by decide) zk_5.2 (by decide)).trans ?_
  refine (Q_ic_ge (tgt := 32) zm_39 (Or.inl (by decide)) D39_9 (by decide)).trans ?_
  refine zif_c (fun h0_ => ?_) (fun h0_ => ?_)
  · exact Q_return zm_39 (Or.inl (by decide)) D39_32 rfl
  · refine (Q_aload_n zm_39 (Or.inl (by decide)) D39_12 rfl).trans ?_
    refine (Q_getR (q := 5) zm_39 (Or.inl (by decide)) D39_13 zf_4_22 zs_4_5 zk_1.1 rfl).trans ?_
    refine (Q_aload_n zm_39 (Or.inl (by decide)) D39_16 rfl).trans ?_
    refine (Q_getI zm_39 (Or.inl (by decide)) D39_17 zf_4_134 (Or.inl zs_4_6) zk_1.1).trans ?_
    refine (Q_iload_n zm_39 (Or.inl (by decide)) D39_20 rfl).trans ?_
    refine (Q_iastore zm_39 (Or.inl (by decide)) D39_21 zk_5.1 zk_5.2).trans ?_
    refine zand_c (fun h1_ => ?_)
    refine (Q_aload_n zm_39 (Or.inl (by decide)) D39_22 rfl).trans ?_
    refine (Q_dup zm_39 (Or.inl (by decide)) D39_23 rfl).trans ?_
    refine (Q_getI zm_39 (Or.inl (by decide)) D39_24 zf_4_134 (Or.inl zs_4_6) zk_1.1).trans ?_
    refine (Q_iconst (v := 1) zm_39 (Or.inl (by decide)) D39_27 (by decide)).trans ?_
    refine (Q_iadd zm_39 (Or.inl (by decide)) D39_28).trans ?_
    refine (Q_putI zm_39 (Or.inl (by decide)) D39_29 zf_4_134 zs_4_6 rfl zk_1.1).trans ?_
    exact Q_return zm_39 (Or.inl (by decide)) D39_32 rfl

/-! HandsLet$Reader.setKnotDown(II)V -/
theorem D40_0 : decode prog_6_method_20_code 0 = .ok (.aload_n 0, 1) := by decide +kernel
theorem D40_1 : decode prog_6_method_20_code 1 = .ok (.getfield 38, 3) := by decide +kernel
theorem D40_4 : decode prog_6_method_20_code 4 = .ok (.bipush 64, 2) := by decide +kernel
theorem D40_6 : decode prog_6_method_20_code 6 = .ok (.if_icmp .ge 39, 3) := by decide +kernel
theorem D40_9 : decode prog_6_method_20_code 9 = .ok (.aload_n 0, 1) := by decide +kernel
theorem D40_10 : decode prog_6_method_20_code 10 = .ok (.getfield 26, 3) := by decide +kernel
theorem D40_13 : decode prog_6_method_20_code 13 = .ok (.getfield 175, 3) := by decide +kernel
theorem D40_16 : decode prog_6_method_20_code 16 = .ok (.aload_n 0, 1) := by decide +kernel
theorem D40_17 : decode prog_6_method_20_code 17 = .ok (.getfield 38, 3) := by decide +kernel
theorem D40_20 : decode prog_6_method_20_code 20 = .ok (.iload_n 1, 1) := by decide +kernel
theorem D40_21 : decode prog_6_method_20_code 21 = .ok (.iastore, 1) := by decide +kernel
theorem D40_22 : decode prog_6_method_20_code 22 = .ok (.aload_n 0, 1) := by decide +kernel
theorem D40_23 : decode prog_6_method_20_code 23 = .ok (.getfield 26, 3) := by decide +kernel
theorem D40_26 : decode prog_6_method_20_code 26 = .ok (.getfield 178, 3) := by decide +kernel
theorem D40_29 : decode prog_6_method_20_code 29 = .ok (.aload_n 0, 1) := by decide +kernel
theorem D40_30 : decode prog_6_method_20_code 30 = .ok (.getfield 38, 3) := by decide +kernel
theorem D40_33 : decode prog_6_method_20_code 33 = .ok (.iload_n 2, 1) := by decide +kernel
theorem D40_34 : decode prog_6_method_20_code 34 = .ok (.iastore, 1) := by decide +kernel
theorem D40_35 : decode prog_6_method_20_code 35 = .ok (.aload_n 0, 1) := by decide +kernel
theorem D40_36 : decode prog_6_method_20_code 36 = .ok (.dup, 1) := by decide +kernel
theorem D40_37 : decode prog_6_method_20_code 37 = .ok (.getfield 38, 3) := by decide +kernel
theorem D40_40 : decode prog_6_method_20_code 40 = .ok (.iconst 1, 1) := by decide +kernel
theorem D40_41 : decode prog_6_method_20_code 41 = .ok (.iadd, 1) := by decide +kernel
theorem D40_42 : decode prog_6_method_20_code 42 = .ok (.putfield 38, 3) := by decide +kernel
theorem D40_45 : decode prog_6_method_20_code 45 = .ok (.return_, 1) := by decide +kernel

theorem b40_0 {d : Nat} {i1 : Int32} {i2 : Int32} {ia : Nat → Nat → Int32} {la : Nat → Nat → Int64} {pl dr : Nat} {cp : Option Nat} {cw : Option Nat} {rp : Nat} {K : Option Value → zHP → Prop} (hrp : zIsP rp) : zWP d 40 0 [some (.ref 1), some (.int i1), some (.int i2)] [] (ia, la, zRA pl dr cp cw (some rp)) K = (if (64 : Int32) ≤ (ia 1 8) then K none (ia, la, zRA pl dr cp cw (some rp)) else (vp_in (ia 1 8) 64 ∧ (vp_in ((zu ia (rp + 31) ((ia 1 8)).toNatClampNeg i1) 1 8) 64 ∧ K none ((zu (zu (zu ia (rp + 31) ((ia 1 8)).toNatClampNeg i1) (rp + 32) (((zu ia (rp + 31) ((ia 1 8)).toNatClampNeg i1) 1 8)).toNatClampNeg i2) 1 8 (((zu (zu ia (rp + 31) ((ia 1 8)).toNatClampNeg i1) (rp + 32) (((zu ia (rp + 31) ((ia 1 8)).toNatClampNeg i1) 1 8)).toNatClampNeg i2) 1 8) + (1 : Int32))), la, zRA pl dr cp cw (some rp))))) := by
  refine (Q_aload_n zm_40 (Or.inl (by decide)) D40_0 rfl).trans ?_
  refine (Q_getI zm_40 (Or.inl (by decide)) D40_1 zf_4_38 (Or.inl zs_4_8) zk_1.1).trans ?_
  refine (Q_bipush (v := 64) zm_40 (Or.inl (by decide)) D40_4 (by decide)).trans ?_
  refine (Q_ic_ge (tgt := 45) zm_40 (Or.inl (by decide)) D40_6 (by decide)).trans ?_
  refine zif_c (fun h0_ => ?_) (fun h0_ => ?_)
  · exact Q_return zm_40 (Or.inl (by decide)) D40_45 rfl
  · refine (Q_aload_n zm_40 (Or.inl (by decide)) D40_9 rfl).trans ?_
    refine (Q_getR (q := rp) zm_40 (Or.inl (by decide)) D40_10 zf_4_26 zs_4_1 zk_1.1 rfl).trans ?_
    refine (Q_getR (q := (rp + 31)) zm_40 (Or.inl (by decide)) D40_13 zf_4_175 zs_3_13 (zkp_0 hrp).1 (zrp_13 hrp)).trans ?_
    refine (Q_aload_n zm_40 (Or.inl (by decide)) D40_16 rfl).trans ?_
    refine (Q_getI zm_40 (Or.inl (by decide)) D40_17 zf_4_38 (Or.inl zs_4_8) zk_1.1).trans ?_
    refine (Q_iload_n zm_40 (Or.inl (by decide)) D40_20 rfl).trans ?_
    refine (Q_iastore zm_40 (Or.inl (by decide)) D40_21 (zkp_31 hrp).1 (zkp_31 hrp).2).trans ?_
    refine zand_c (fun h1_ => ?_)
    refine (Q_aload_n zm_40 (Or.inl (by decide)) D40_22 rfl).trans ?_
    refine (Q_getR (q := rp) zm_40 (Or.inl (by decide)) D40_23 zf_4_26 zs_4_1 zk_1.1 rfl).trans ?_
    refine (Q_getR (q := (rp + 32)) zm_40 (Or.inl (by decide)) D40_26 zf_4_178 zs_3_14 (zkp_0 hrp).1 (zrp_14 hrp)).trans ?_
    refine (Q_aload_n zm_40 (Or.inl (by decide)) D40_29 rfl).trans ?_
    refine (Q_getI zm_40 (Or.inl (by decide)) D40_30 zf_4_38 (Or.inl zs_4_8) zk_1.1).trans ?_
    refine (Q_iload_n zm_40 (Or.inl (by decide)) D40_33 rfl).trans ?_
    refine (Q_iastore zm_40 (Or.inl (by decide)) D40_34 (zkp_32 hrp).1 (zkp_32 hrp).2).trans ?_
    refine zand_c (fun h2_ => ?_)
    refine (Q_aload_n zm_40 (Or.inl (by decide)) D40_35 rfl).trans ?_
    refine (Q_dup zm_40 (Or.inl (by decide)) D40_36 rfl).trans ?_
    refine (Q_getI zm_40 (Or.inl (by decide)) D40_37 zf_4_38 (Or.inl zs_4_8) zk_1.1).trans ?_
    refine (Q_iconst (v := 1) zm_40 (Or.inl (by decide)) D40_40 (by decide)).trans ?_
    refine (Q_iadd zm_40 (Or.inl (by decide)) D40_41).trans ?_
    refine (Q_putI zm_40 (Or.inl (by decide)) D40_42 zf_4_38 zs_4_8 rfl zk_1.1).trans ?_
    exact Q_return zm_40 (Or.inl (by decide)) D40_45 rfl

/-! HandsLet$Reader.settle(I)V -/
theorem D41_0 : decode prog_6_method_21_code 0 = .ok (.aload_n 0, 1) := by decide +kernel
theorem D41_1 : decode prog_6_method_21_code 1 = .ok (.getfield 134, 3) := by decide +kernel
theorem D41_4 : decode prog_6_method_21_code 4 = .ok (.ifCond .le 48, 3) := by decide +kernel
theorem D41_7 : decode prog_6_method_21_code 7 = .ok (.aload_n 0, 1) := by decide +kernel
theorem D41_8 : decode prog_6_method_21_code 8 = .ok (.getfield 22, 3) := by decide +kernel
theorem D41_11 : decode prog_6_method_21_code 11 = .ok (.aload_n 0, 1) := by decide +kernel
theorem D41_12 : decode prog_6_method_21_code 12 = .ok (.getfield 134, 3) := by decide +kernel
theorem D41_15 : decode prog_6_method_21_code 15 = .ok (.iconst 1, 1) := by decide +kernel
theorem D41_16 : decode prog_6_method_21_code 16 = .ok (.isub, 1) := by decide +kernel
theorem D41_17 : decode prog_6_method_21_code 17 = .ok (.iaload, 1) := by decide +kernel
theorem D41_18 : decode prog_6_method_21_code 18 = .ok (.invokestatic 166, 3) := by decide +kernel
theorem D41_21 : decode prog_6_method_21_code 21 = .ok (.iload_n 1, 1) := by decide +kernel
theorem D41_22 : decode prog_6_method_21_code 22 = .ok (.if_icmp .lt 30, 3) := by decide +kernel
theorem D41_25 : decode prog_6_method_21_code 25 = .ok (.aload_n 0, 1) := by decide +kernel
theorem D41_26 : decode prog_6_method_21_code 26 = .ok (.dup, 1) := by decide +kernel
theorem D41_27 : decode prog_6_method_21_code 27 = .ok (.getfield 134, 3) := by decide +kernel
theorem D41_30 : decode prog_6_method_21_code 30 = .ok (.iconst 1, 1) := by decide +kernel
theorem D41_31 : decode prog_6_method_21_code 31 = .ok (.isub, 1) := by decide +kernel
theorem D41_32 : decode prog_6_method_21_code 32 = .ok (.putfield 134, 3) := by decide +kernel
theorem D41_35 : decode prog_6_method_21_code 35 = .ok (.aload_n 0, 1) := by decide +kernel
theorem D41_36 : decode prog_6_method_21_code 36 = .ok (.aload_n 0, 1) := by decide +kernel
theorem D41_37 : decode prog_6_method_21_code 37 = .ok (.getfield 22, 3) := by decide +kernel
theorem D41_40 : decode prog_6_method_21_code 40 = .ok (.aload_n 0, 1) := by decide +kernel
theorem D41_41 : decode prog_6_method_21_code 41 = .ok (.getfield 134, 3) := by decide +kernel
theorem D41_44 : decode prog_6_method_21_code 44 = .ok (.iaload, 1) := by decide +kernel
theorem D41_45 : decode prog_6_method_21_code 45 = .ok (.iconst 0, 1) := by decide +kernel
theorem D41_46 : decode prog_6_method_21_code 46 = .ok (.invokevirtual 159, 3) := by decide +kernel
theorem D41_49 : decode prog_6_method_21_code 49 = .ok (.goto (-49), 3) := by decide +kernel
theorem D41_52 : decode prog_6_method_21_code 52 = .ok (.return_, 1) := by decide +kernel

theorem b41_0 {d : Nat} {i1 : Int32} {ia : Nat → Nat → Int32} {la : Nat → Nat → Int64} {pl dr : Nat} {cp : Option Nat} {cw : Option Nat} {rp : Nat} {K : Option Value → zHP → Prop}  : zWP (d + 1) 41 0 [some (.ref 1), some (.int i1)] [] (ia, la, zRA pl dr cp cw (some rp)) K = (if (ia 1 6) ≤ 0 then K none (ia, la, zRA pl dr cp cw (some rp)) else (vp_in ((ia 1 6) - (1 : Int32)) 72 ∧ zWM d 42 [.int (ia 5 (((ia 1 6) - (1 : Int32))).toNatClampNeg)] (ia, la, zRA pl dr cp cw (some rp)) (zK (d + 1) 41 21 [some (.ref 1), some (.int i1)] [] K))) := by
  refine (Q_aload_n zm_41 (Or.inl (by decide)) D41_0 rfl).trans ?_
  refine (Q_getI zm_41 (Or.inl (by decide)) D41_1 zf_4_134 (Or.inl zs_4_6) zk_1.1).trans ?_
  refine (Q_if_le (tgt := 52) zm_41 (Or.inl (by decide)) D41_4 (by decide)).trans ?_
  refine zif_c (fun h0_ => ?_) (fun h0_ => ?_)
  · exact Q_return zm_41 (Or.inl (by decide)) D41_52 rfl
  · refine (Q_aload_n zm_41 (Or.inl (by decide)) D41_7 rfl).trans ?_
    refine (Q_getR (q := 5) zm_41 (Or.inl (by decide)) D41_8 zf_4_22 zs_4_5 zk_1.1 rfl).trans ?_
    refine (Q_aload_n zm_41 (Or.inl (by decide)) D41_11 rfl).trans ?_
    refine (Q_getI zm_41 (Or.inl (by decide)) D41_12 zf_4_134 (Or.inl zs_4_6) zk_1.1).trans ?_
    refine (Q_iconst (v := 1) zm_41 (Or.inl (by decide)) D41_15 (by decide)).trans ?_
    refine (Q_isub zm_41 (Or.inl (by decide)) D41_16).trans ?_
    refine (Q_iaload zm_41 (Or.inl (by decide)) D41_17 zk_5.1 zk_5.2).trans ?_
    refine zand_c (fun h1_ => ?_)
    exact Q_calls (as := [.int (ia 5 (((ia 1 6) - (1 : Int32))).toNatClampNeg)]) (rest := []) zm_41 (Or.inl (by decide)) D41_18 zc_4_166 rfl (by decide) (by simp [zcat, Value.category]) zm_42 rfl

theorem b41_21 {d : Nat} {i1 : Int32} {s0 : Int32} {ia : Nat → Nat → Int32} {la : Nat → Nat → Int64} {pl dr : Nat} {cp : Option Nat} {cw : Option Nat} {rp : Nat} {K : Option Value → zHP → Prop}  : zWP (d + 1) 41 21 [some (.ref 1), some (.int i1)] [.int s0] (ia, la, zRA pl dr cp cw (some rp)) K = (if s0 < i1 then K none (ia, la, zRA pl dr cp cw (some rp)) else (vp_in ((zu ia 1 6 ((ia 1 6) - (1 : Int32))) 1 6) 72 ∧ zWM d 40 [.ref 1, .int ((zu ia 1 6 ((ia 1 6) - (1 : Int32))) 5 (((zu ia 1 6 ((ia 1 6) - (1 : Int32))) 1 6)).toNatClampNeg), .int (0 : Int32)] ((zu ia 1 6 ((ia 1 6) - (1 : Int32))), la, zRA pl dr cp cw (some rp)) (zK (d + 1) 41 49 [some (.ref 1), some (.int i1)] [] K))) := by
  refine (Q_iload_n zm_41 (Or.inl (by decide)) D41_21 rfl).trans ?_
  refine (Q_ic_lt (tgt := 52) zm_41 (Or.inl (by decide)) D41_22 (by decide)).trans ?_
  refine zif_c (fun h0_ => ?_) (fun h0_ => ?_)
  · exact Q_return zm_41 (Or.inl (by decide)) D41_52 rfl
  · refine (Q_aload_n zm_41 (Or.inl (by decide)) D41_25 rfl).trans ?_
    refine (Q_dup zm_41 (Or.inl (by decide)) D41_26 rfl).trans ?_
    refine (Q_getI zm_41 (Or.inl (by decide)) D41_27 zf_4_134 (Or.inl zs_4_6) zk_1.1).trans ?_
    refine (Q_iconst (v := 1) zm_41 (Or.inl (by decide)) D41_30 (by decide)).trans ?_
    refine (Q_isub zm_41 (Or.inl (by decide)) D41_31).trans ?_
    refine (Q_putI zm_41 (Or.inl (by decide)) D41_32 zf_4_134 zs_4_6 rfl zk_1.1).trans ?_
    refine (Q_aload_n zm_41 (Or.inl (by decide)) D41_35 rfl).trans ?_
    refine (Q_aload_n zm_41 (Or.inl (by decide)) D41_36 rfl).trans ?_
    refine (Q_getR (q := 5) zm_41 (Or.inl (by decide)) D41_37 zf_4_22 zs_4_5 zk_1.1 rfl).trans ?_
    refine (Q_aload_n zm_41 (Or.inl (by decide)) D41_40 rfl).trans ?_
    refine (Q_getI zm_41 (Or.inl (by decide)) D41_41 zf_4_134 (Or.inl zs_4_6) zk_1.1).trans ?_
    refine (Q_iaload zm_41 (Or.inl (by decide)) D41_44 zk_5.1 zk_5.2).trans ?_
    refine zand_c (fun h1_ => ?_)
    refine (Q_iconst (v := 0) zm_41 (Or.inl (by decide)) D41_45 (by decide)).trans ?_
    exact Q_callv (as := [.int ((zu ia 1 6 ((ia 1 6) - (1 : Int32))) 5 (((zu ia 1 6 ((ia 1 6) - (1 : Int32))) 1 6)).toNatClampNeg), .int (0 : Int32)]) (b := 1) (rest := []) zm_41 (Or.inl (by decide)) D41_46 zc_4_159 rfl zk_1.1 (by decide) (by decide +kernel) (by decide) (by simp [zcat, Value.category]) zm_40 rfl

theorem b41_49 {d : Nat} {i1 : Int32} {ia : Nat → Nat → Int32} {la : Nat → Nat → Int64} {pl dr : Nat} {cp : Option Nat} {cw : Option Nat} {rp : Nat} {K : Option Value → zHP → Prop}  : zWP d 41 49 [some (.ref 1), some (.int i1)] [] (ia, la, zRA pl dr cp cw (some rp)) K = zWP d 41 0 [some (.ref 1), some (.int i1)] [] (ia, la, zRA pl dr cp cw (some rp)) K := by
  refine (Q_goto (tgt := 0) zm_41 (Or.inl (by decide)) D41_49 (by decide)).trans ?_
  rfl

/-! HandsLet$Reader.rankOf(I)I -/
theorem D42_0 : decode prog_6_method_22_code 0 = .ok (.iload_n 0, 1) := by decide +kernel
theorem D42_1 : decode prog_6_method_22_code 1 = .ok (.tableswitch 132 7 32 #[125, 125, 125, 125, 125, 125, 127, 127, 129, 129, 132, 132, 132, 132, 132, 132, 132, 132, 132, 132, 132, 132, 132, 119, 121, 123], 119) := by decide +kernel
theorem D42_120 : decode prog_6_method_22_code 120 = .ok (.iconst 1, 1) := by decide +kernel
theorem D42_121 : decode prog_6_method_22_code 121 = .ok (.ireturn, 1) := by decide +kernel
theorem D42_122 : decode prog_6_method_22_code 122 = .ok (.iconst 2, 1) := by decide +kernel
theorem D42_123 : decode prog_6_method_22_code 123 = .ok (.ireturn, 1) := by decide +kernel
theorem D42_124 : decode prog_6_method_22_code 124 = .ok (.iconst 3, 1) := by decide +kernel
theorem D42_125 : decode prog_6_method_22_code 125 = .ok (.ireturn, 1) := by decide +kernel
theorem D42_126 : decode prog_6_method_22_code 126 = .ok (.iconst 4, 1) := by decide +kernel
theorem D42_127 : decode prog_6_method_22_code 127 = .ok (.ireturn, 1) := by decide +kernel
theorem D42_128 : decode prog_6_method_22_code 128 = .ok (.iconst 5, 1) := by decide +kernel
theorem D42_129 : decode prog_6_method_22_code 129 = .ok (.ireturn, 1) := by decide +kernel
theorem D42_130 : decode prog_6_method_22_code 130 = .ok (.bipush 6, 2) := by decide +kernel
theorem D42_132 : decode prog_6_method_22_code 132 = .ok (.ireturn, 1) := by decide +kernel
theorem D42_133 : decode prog_6_method_22_code 133 = .ok (.iconst 0, 1) := by decide +kernel
theorem D42_134 : decode prog_6_method_22_code 134 = .ok (.ireturn, 1) := by decide +kernel

set_option maxRecDepth 20000 in
theorem b42_0 {d : Nat} {i0 : Int32} {ia : Nat → Nat → Int32} {la : Nat → Nat → Int64} {pl dr : Nat} {cp : Option Nat} {cw : Option Nat} {rp : Nat} {K : Option Value → zHP → Prop}  : zWP d 42 0 [some (.int i0)] [] (ia, la, zRA pl dr cp cw (some rp)) K = (if i0 = 7 then K (some (.int (4 : Int32))) (ia, la, zRA pl dr cp cw (some rp)) else (if i0 = 8 then K (some (.int (4 : Int32))) (ia, la, zRA pl dr cp cw (some rp)) else (if i0 = 9 then K (some (.int (4 : Int32))) (ia, la, zRA pl dr cp cw (some rp)) else (if i0 = 10 then K (some (.int (4 : Int32))) (ia, la, zRA pl dr cp cw (some rp)) else (if i0 = 11 then K (some (.int (4 : Int32))) (ia, la, zRA pl dr cp cw (some rp)) else (if i0 = 12 then K (some (.int (4 : Int32))) (ia, la, zRA pl dr cp cw (some rp)) else (if i0 = 13 then K (some (.int (5 : Int32))) (ia, la, zRA pl dr cp cw (some rp)) else (if i0 = 14 then K (some (.int (5 : Int32))) (ia, la, zRA pl dr cp cw (some rp)) else (if i0 = 15 then K (some (.int (6 : Int32))) (ia, la, zRA pl dr cp cw (some rp)) else (if i0 = 16 then K (some (.int (6 : Int32))) (ia, la, zRA pl dr cp cw (some rp)) else (if i0 = 17 then K (some (.int (0 : Int32))) (ia, la, zRA pl dr cp cw (some rp)) else (if i0 = 18 then K (some (.int (0 : Int32))) (ia, la, zRA pl dr cp cw (some rp)) else (if i0 = 19 then K (some (.int (0 : Int32))) (ia, la, zRA pl dr cp cw (some rp)) else (if i0 = 20 then K (some (.int (0 : Int32))) (ia, la, zRA pl dr cp cw (some rp)) else (if i0 = 21 then K (some (.int (0 : Int32))) (ia, la, zRA pl dr cp cw (some rp)) else (if i0 = 22 then K (some (.int (0 : Int32))) (ia, la, zRA pl dr cp cw (some rp)) else (if i0 = 23 then K (some (.int (0 : Int32))) (ia, la, zRA pl dr cp cw (some rp)) else (if i0 = 24 then K (some (.int (0 : Int32))) (ia, la, zRA pl dr cp cw (some rp)) else (if i0 = 25 then K (some (.int (0 : Int32))) (ia, la, zRA pl dr cp cw (some rp)) else (if i0 = 26 then K (some (.int (0 : Int32))) (ia, la, zRA pl dr cp cw (some rp)) else (if i0 = 27 then K (some (.int (0 : Int32))) (ia, la, zRA pl dr cp cw (some rp)) else (if i0 = 28 then K (some (.int (0 : Int32))) (ia, la, zRA pl dr cp cw (some rp)) else (if i0 = 29 then K (some (.int (0 : Int32))) (ia, la, zRA pl dr cp cw (some rp)) else (if i0 = 30 then K (some (.int (1 : Int32))) (ia, la, zRA pl dr cp cw (some rp)) else (if i0 = 31 then K (some (.int (2 : Int32))) (ia, la, zRA pl dr cp cw (some rp)) else (if i0 = 32 then K (some (.int (3 : Int32))) (ia, la, zRA pl dr cp cw (some rp)) else K (some (.int (0 : Int32))) (ia, la, zRA pl dr cp cw (some rp)))))))))))))))))))))))))))) := by
  refine (Q_iload_n zm_42 (Or.inl (by decide)) D42_0 rfl).trans ?_
  by_cases h0_ : i0 = 7
  · rw [if_pos h0_]
    refine (congrArg (fun q => zWP d 42 1 [some (.int i0)] (.int q :: []) (ia, la, zRA pl dr cp cw (some rp)) K) h0_).trans ?_
    refine (Q_tsw (tgt := 126) zm_42 (Or.inl (by decide)) D42_1 rfl (by decide)).trans ?_
    refine (Q_iconst (v := 4) zm_42 (Or.inl (by decide)) D42_126 (by decide)).trans ?_
    exact Q_ireturn zm_42 (Or.inl (by decide)) D42_127 rfl
  rw [if_neg h0_]
  by_cases h1_ : i0 = 8
  · rw [if_pos h1_]
    refine (congrArg (fun q => zWP d 42 1 [some (.int i0)] (.int q :: []) (ia, la, zRA pl dr cp cw (some rp)) K) h1_).trans ?_
    refine (Q_tsw (tgt := 126) zm_42 (Or.inl (by decide)) D42_1 rfl (by decide)).trans ?_
    refine (Q_iconst (v := 4) zm_42 (Or.inl (by decide)) D42_126 (by decide)).trans ?_
    exact Q_ireturn zm_42 (Or.inl (by decide)) D42_127 rfl
  rw [if_neg h1_]
  by_cases h2_ : i0 = 9
  · rw [if_pos h2_]
    refine (congrArg (fun q => zWP d 42 1 [some (.int i0)] (.int q :: []) (ia, la, zRA pl dr cp cw (some rp)) K) h2_).trans ?_
    refine (Q_tsw (tgt := 126) zm_42 (Or.inl (by decide)) D42_1 rfl (by decide)).trans ?_
    refine (Q_iconst (v := 4) zm_42 (Or.inl (by decide)) D42_126 (by decide)).trans ?_
    exact Q_ireturn zm_42 (Or.inl (by decide)) D42_127 rfl
  rw [if_neg h2_]
  by_cases h3_ : i0 = 10
  · rw [if_pos h3_]
    refine (congrArg (fun q => zWP d 42 1 [some (.int i0)] (.int q :: []) (ia, la, zRA pl dr cp cw (some rp)) K) h3_).trans ?_
    refine (Q_tsw (tgt := 126) zm_42 (Or.inl (by decide)) D42_1 rfl (by decide)).trans ?_
    refine (Q_iconst (v := 4) zm_42 (Or.inl (by decide)) D42_126 (by decide)).trans ?_
    exact Q_ireturn zm_42 (Or.inl (by decide)) D42_127 rfl
  rw [if_neg h3_]
  by_cases h4_ : i0 = 11
  · rw [if_pos h4_]
    refine (congrArg (fun q => zWP d 42 1 [some (.int i0)] (.int q :: []) (ia, la, zRA pl dr cp cw (some rp)) K) h4_).trans ?_
    refine (Q_tsw (tgt := 126) zm_42 (Or.inl (by decide)) D42_1 rfl (by decide)).trans ?_
    refine (Q_iconst (v := 4) zm_42 (Or.inl (by decide)) D42_126 (by decide)).trans ?_
    exact Q_ireturn zm_42 (Or.inl (by decide)) D42_127 rfl
  rw [if_neg h4_]
  by_cases h5_ : i0 = 12
  · rw [if_pos h5_]
    refine (congrArg (fun q => zWP d 42 1 [some (.int i0)] (.int q :: []) (ia, la, zRA pl dr cp cw (some rp)) K) h5_).trans ?_
    refine (Q_tsw (tgt := 126) zm_42 (Or.inl (by decide)) D42_1 rfl (by decide)).trans ?_
    refine (Q_iconst (v := 4) zm_42 (Or.inl (by decide)) D42_126 (by decide)).trans ?_
    exact Q_ireturn zm_42 (Or.inl (by decide)) D42_127 rfl
  rw [if_neg h5_]
  by_cases h6_ : i0 = 13
  · rw [if_pos h6_]
    refine (congrArg (fun q => zWP d 42 1 [some (.int i0)] (.int q :: []) (ia, la, zRA pl dr cp cw (some rp)) K) h6_).trans ?_
    refine (Q_tsw (tgt := 128) zm_42 (Or.inl (by decide)) D42_1 rfl (by decide)).trans ?_
    refine (Q_iconst (v := 5) zm_42 (Or.inl (by decide)) D42_128 (by decide)).trans ?_
    exact Q_ireturn zm_42 (Or.inl (by decide)) D42_129 rfl
  rw [if_neg h6_]
  by_cases h7_ : i0 = 14
  · rw [if_pos h7_]
    refine (congrArg (fun q => zWP d 42 1 [some (.int i0)] (.int q :: []) (ia, la, zRA pl dr cp cw (some rp)) K) h7_).trans ?_
    refine (Q_tsw (tgt := 128) zm_42 (Or.inl (by decide)) D42_1 rfl (by decide)).trans ?_
    refine (Q_iconst (v := 5) zm_42 (Or.inl (by decide)) D42_128 (by decide)).trans ?_
    exact Q_ireturn zm_42 (Or.inl (by decide)) D42_129 rfl
  rw [if_neg h7_]
  by_cases h8_ : i0 = 15
  · rw [if_pos h8_]
    refine (congrArg (fun q => zWP d 42 1 [some (.int i0)] (.int q :: []) (ia, la, zRA pl dr cp cw (some rp)) K) h8_).trans ?_
    refine (Q_tsw (tgt := 130) zm_42 (Or.inl (by decide)) D42_1 rfl (by decide)).trans ?_
    refine (Q_bipush (v := 6) zm_42 (Or.inl (by decide)) D42_130 (by decide)).trans ?_
    exact Q_ireturn zm_42 (Or.inl (by decide)) D42_132 rfl
  rw [if_neg h8_]
  by_cases h9_ : i0 = 16
  · rw [if_pos h9_]
    refine (congrArg (fun q => zWP d 42 1 [some (.int i0)] (.int q :: []) (ia, la, zRA pl dr cp cw (some rp)) K) h9_).trans ?_
    refine (Q_tsw (tgt := 130) zm_42 (Or.inl (by decide)) D42_1 rfl (by decide)).trans ?_
    refine (Q_bipush (v := 6) zm_42 (Or.inl (by decide)) D42_130 (by decide)).trans ?_
    exact Q_ireturn zm_42 (Or.inl (by decide)) D42_132 rfl
  rw [if_neg h9_]
  by_cases h10_ : i0 = 17
  · rw [if_pos h10_]
    refine (congrArg (fun q => zWP d 42 1 [some (.int i0)] (.int q :: []) (ia, la, zRA pl dr cp cw (some rp)) K) h10_).trans ?_
    refine (Q_tsw (tgt := 133) zm_42 (Or.inl (by decide)) D42_1 rfl (by decide)).trans ?_
    refine (Q_iconst (v := 0) zm_42 (Or.inl (by decide)) D42_133 (by decide)).trans ?_
    exact Q_ireturn zm_42 (Or.inl (by decide)) D42_134 rfl
  rw [if_neg h10_]
  by_cases h11_ : i0 = 18
  · rw [if_pos h11_]
    refine (congrArg (fun q => zWP d 42 1 [some (.int i0)] (.int q :: []) (ia, la, zRA pl dr cp cw (some rp)) K) h11_).trans ?_
    refine (Q_tsw (tgt := 133) zm_42 (Or.inl (by decide)) D42_1 rfl (by decide)).trans ?_
    refine (Q_iconst (v := 0) zm_42 (Or.inl (by decide)) D42_133 (by decide)).trans ?_
    exact Q_ireturn zm_42 (Or.inl (by decide)) D42_134 rfl
  rw [if_neg h11_]
  by_cases h12_ : i0 = 19
  · rw [if_pos h12_]
    refine (congrArg (fun q => zWP d 42 1 [some (.int i0)] (.int q :: []) (ia, la, zRA pl dr cp cw (some rp)) K) h12_).trans ?_
    refine (Q_tsw (tgt := 133) zm_42 (Or.inl (by decide)) D42_1 rfl (by decide)).trans ?_
    refine (Q_iconst (v := 0) zm_42 (Or.inl (by decide)) D42_133 (by decide)).trans ?_
    exact Q_ireturn zm_42 (Or.inl (by decide)) D42_134 rfl
  rw [if_neg h12_]
  by_cases h13_ : i0 = 20
  · rw [if_pos h13_]
    refine (congrArg (fun q => zWP d 42 1 [some (.int i0)] (.int q :: []) (ia, la, zRA pl dr cp cw (some rp)) K) h13_).trans ?_
    refine (Q_tsw (tgt := 133) zm_42 (Or.inl (by decide)) D42_1 rfl (by decide)).trans ?_
    refine (Q_iconst (v := 0) zm_42 (Or.inl (by decide)) D42_133 (by decide)).trans ?_
    exact Q_ireturn zm_42 (Or.inl (by decide)) D42_134 rfl
  rw [if_neg h13_]
  by_cases h14_ : i0 = 21
  · rw [if_pos h14_]
    refine (congrArg (fun q => zWP d 42 1 [some (.int i0)] (.int q :: []) (ia, la, zRA pl dr cp cw (some rp)) K) h14_).trans ?_
    refine (Q_tsw (tgt := 133) zm_42 (Or.inl (by decide)) D42_1 rfl (by decide)).trans ?_
    refine (Q_iconst (v := 0) zm_42 (Or.inl (by decide)) D42_133 (by decide)).trans ?_
    exact Q_ireturn zm_42 (Or.inl (by decide)) D42_134 rfl
  rw [if_neg h14_]
  by_cases h15_ : i0 = 22
  · rw [if_pos h15_]
    refine (congrArg (fun q => zWP d 42 1 [some (.int i0)] (.int q :: []) (ia, la, zRA pl dr cp cw (some rp)) K) h15_).trans ?_
    refine (Q_tsw (tgt := 133) zm_42 (Or.inl (by decide)) D42_1 rfl (by decide)).trans ?_
    refine (Q_iconst (v := 0) zm_42 (Or.inl (by decide)) D42_133 (by decide)).trans ?_
    exact Q_ireturn zm_42 (Or.inl (by decide)) D42_134 rfl
  rw [if_neg h15_]
  by_cases h16_ : i0 = 23
  · rw [if_pos h16_]
    refine (congrArg (fun q => zWP d 42 1 [some (.int i0)] (.int q :: []) (ia, la, zRA pl dr cp cw (some rp)) K) h16_).trans ?_
    refine (Q_tsw (tgt := 133) zm_42 (Or.inl (by decide)) D42_1 rfl (by decide)).trans ?_
    refine (Q_iconst (v := 0) zm_42 (Or.inl (by decide)) D42_133 (by decide)).trans ?_
    exact Q_ireturn zm_42 (Or.inl (by decide)) D42_134 rfl
  rw [if_neg h16_]
  by_cases h17_ : i0 = 24
  · rw [if_pos h17_]
    refine (congrArg (fun q => zWP d 42 1 [some (.int i0)] (.int q :: []) (ia, la, zRA pl dr cp cw (some rp)) K) h17_).trans ?_
    refine (Q_tsw (tgt := 133) zm_42 (Or.inl (by decide)) D42_1 rfl (by decide)).trans ?_
    refine (Q_iconst (v := 0) zm_42 (Or.inl (by decide)) D42_133 (by decide)).trans ?_
    exact Q_ireturn zm_42 (Or.inl (by decide)) D42_134 rfl
  rw [if_neg h17_]
  by_cases h18_ : i0 = 25
  · rw [if_pos h18_]
    refine (congrArg (fun q => zWP d 42 1 [some (.int i0)] (.int q :: []) (ia, la, zRA pl dr cp cw (some rp)) K) h18_).trans ?_
    refine (Q_tsw (tgt := 133) zm_42 (Or.inl (by decide)) D42_1 rfl (by decide)).trans ?_
    refine (Q_iconst (v := 0) zm_42 (Or.inl (by decide)) D42_133 (by decide)).trans ?_
    exact Q_ireturn zm_42 (Or.inl (by decide)) D42_134 rfl
  rw [if_neg h18_]
  by_cases h19_ : i0 = 26
  · rw [if_pos h19_]
    refine (congrArg (fun q => zWP d 42 1 [some (.int i0)] (.int q :: []) (ia, la, zRA pl dr cp cw (some rp)) K) h19_).trans ?_
    refine (Q_tsw (tgt := 133) zm_42 (Or.inl (by decide)) D42_1 rfl (by decide)).trans ?_
    refine (Q_iconst (v := 0) zm_42 (Or.inl (by decide)) D42_133 (by decide)).trans ?_
    exact Q_ireturn zm_42 (Or.inl (by decide)) D42_134 rfl
  rw [if_neg h19_]
  by_cases h20_ : i0 = 27
  · rw [if_pos h20_]
    refine (congrArg (fun q => zWP d 42 1 [some (.int i0)] (.int q :: []) (ia, la, zRA pl dr cp cw (some rp)) K) h20_).trans ?_
    refine (Q_tsw (tgt := 133) zm_42 (Or.inl (by decide)) D42_1 rfl (by decide)).trans ?_
    refine (Q_iconst (v := 0) zm_42 (Or.inl (by decide)) D42_133 (by decide)).trans ?_
    exact Q_ireturn zm_42 (Or.inl (by decide)) D42_134 rfl
  rw [if_neg h20_]
  by_cases h21_ : i0 = 28
  · rw [if_pos h21_]
    refine (congrArg (fun q => zWP d 42 1 [some (.int i0)] (.int q :: []) (ia, la, zRA pl dr cp cw (some rp)) K) h21_).trans ?_
    refine (Q_tsw (tgt := 133) zm_42 (Or.inl (by decide)) D42_1 rfl (by decide)).trans ?_
    refine (Q_iconst (v := 0) zm_42 (Or.inl (by decide)) D42_133 (by decide)).trans ?_
    exact Q_ireturn zm_42 (Or.inl (by decide)) D42_134 rfl
  rw [if_neg h21_]
  by_cases h22_ : i0 = 29
  · rw [if_pos h22_]
    refine (congrArg (fun q => zWP d 42 1 [some (.int i0)] (.int q :: []) (ia, la, zRA pl dr cp cw (some rp)) K) h22_).trans ?_
    refine (Q_tsw (tgt := 133) zm_42 (Or.inl (by decide)) D42_1 rfl (by decide)).trans ?_
    refine (Q_iconst (v := 0) zm_42 (Or.inl (by decide)) D42_133 (by decide)).trans ?_
    exact Q_ireturn zm_42 (Or.inl (by decide)) D42_134 rfl
  rw [if_neg h22_]
  by_cases h23_ : i0 = 30
  · rw [if_pos h23_]
    refine (congrArg (fun q => zWP d 42 1 [some (.int i0)] (.int q :: []) (ia, la, zRA pl dr cp cw (some rp)) K) h23_).trans ?_
    refine (Q_tsw (tgt := 120) zm_42 (Or.inl (by decide)) D42_1 rfl (by decide)).trans ?_
    refine (Q_iconst (v := 1) zm_42 (Or.inl (by decide)) D42_120 (by decide)).trans ?_
    exact Q_ireturn zm_42 (Or.inl (by decide)) D42_121 rfl
  rw [if_neg h23_]
  by_cases h24_ : i0 = 31
  · rw [if_pos h24_]
    refine (congrArg (fun q => zWP d 42 1 [some (.int i0)] (.int q :: []) (ia, la, zRA pl dr cp cw (some rp)) K) h24_).trans ?_
    refine (Q_tsw (tgt := 122) zm_42 (Or.inl (by decide)) D42_1 rfl (by decide)).trans ?_
    refine (Q_iconst (v := 2) zm_42 (Or.inl (by decide)) D42_122 (by decide)).trans ?_
    exact Q_ireturn zm_42 (Or.inl (by decide)) D42_123 rfl
  rw [if_neg h24_]
  by_cases h25_ : i0 = 32
  · rw [if_pos h25_]
    refine (congrArg (fun q => zWP d 42 1 [some (.int i0)] (.int q :: []) (ia, la, zRA pl dr cp cw (some rp)) K) h25_).trans ?_
    refine (Q_tsw (tgt := 124) zm_42 (Or.inl (by decide)) D42_1 rfl (by decide)).trans ?_
    refine (Q_iconst (v := 3) zm_42 (Or.inl (by decide)) D42_124 (by decide)).trans ?_
    exact Q_ireturn zm_42 (Or.inl (by decide)) D42_125 rfl
  rw [if_neg h25_]
  refine (Q_tsw (tgt := 133) zm_42 (Or.inl (by decide)) D42_1 (zsw_out (n := 26) (by decide) (fun q hq => ?_)) (by decide)).trans ?_
  · rcases (show q = 0 ∨ q = 1 ∨ q = 2 ∨ q = 3 ∨ q = 4 ∨ q = 5 ∨ q = 6 ∨ q = 7 ∨ q = 8 ∨ q = 9 ∨ q = 10 ∨ q = 11 ∨ q = 12 ∨ q = 13 ∨ q = 14 ∨ q = 15 ∨ q = 16 ∨ q = 17 ∨ q = 18 ∨ q = 19 ∨ q = 20 ∨ q = 21 ∨ q = 22 ∨ q = 23 ∨ q = 24 ∨ q = 25 by omega) with rfl | rfl | rfl | rfl | rfl | rfl | rfl | rfl | rfl | rfl | rfl | rfl | rfl | rfl | rfl | rfl | rfl | rfl | rfl | rfl | rfl | rfl | rfl | rfl | rfl | rfl
    · exact h0_
    · exact h1_
    · exact h2_
    · exact h3_
    · exact h4_
    · exact h5_
    · exact h6_
    · exact h7_
    · exact h8_
    · exact h9_
    · exact h10_
    · exact h11_
    · exact h12_
    · exact h13_
    · exact h14_
    · exact h15_
    · exact h16_
    · exact h17_
    · exact h18_
    · exact h19_
    · exact h20_
    · exact h21_
    · exact h22_
    · exact h23_
    · exact h24_
    · exact h25_
  refine (Q_iconst (v := 0) zm_42 (Or.inl (by decide)) D42_133 (by decide)).trans ?_
  exact Q_ireturn zm_42 (Or.inl (by decide)) D42_134 rfl

/-! HandsLet$Sight.clear()V -/
theorem D43_0 : decode prog_7_method_2_code 0 = .ok (.aload_n 0, 1) := by decide +kernel
theorem D43_1 : decode prog_7_method_2_code 1 = .ok (.iconst 0, 1) := by decide +kernel
theorem D43_2 : decode prog_7_method_2_code 2 = .ok (.putfield 35, 3) := by decide +kernel
theorem D43_5 : decode prog_7_method_2_code 5 = .ok (.aload_n 0, 1) := by decide +kernel
theorem D43_6 : decode prog_7_method_2_code 6 = .ok (.iconst (-1), 1) := by decide +kernel
theorem D43_7 : decode prog_7_method_2_code 7 = .ok (.putfield 9, 3) := by decide +kernel
theorem D43_10 : decode prog_7_method_2_code 10 = .ok (.return_, 1) := by decide +kernel

theorem b43_0 {d : Nat}  {ia : Nat → Nat → Int32} {la : Nat → Nat → Int64} {pl dr : Nat} {cp : Option Nat} {cw : Option Nat} {rp : Option Nat} {K : Option Value → zHP → Prop}  : zWP d 43 0 [some (.ref 106)] [] (ia, la, zRA pl dr cp cw rp) K = K none ((zu (zu ia 106 0 (0 : Int32)) 106 2 (-1 : Int32)), la, zRA pl dr cp cw rp) := by
  refine (Q_aload_n zm_43 (Or.inl (by decide)) D43_0 rfl).trans ?_
  refine (Q_iconst (v := 0) zm_43 (Or.inl (by decide)) D43_1 (by decide)).trans ?_
  refine (Q_putI zm_43 (Or.inl (by decide)) D43_2 zf_5_35 zs_5_0 rfl zk_106.1).trans ?_
  refine (Q_aload_n zm_43 (Or.inl (by decide)) D43_5 rfl).trans ?_
  refine (Q_iconst (v := -1) zm_43 (Or.inl (by decide)) D43_6 (by decide)).trans ?_
  refine (Q_putI zm_43 (Or.inl (by decide)) D43_7 zf_5_9 zs_5_2 rfl zk_106.1).trans ?_
  exact Q_return zm_43 (Or.inl (by decide)) D43_10 rfl

/-! HandsLet$Sight.add(IIIZ)I -/
theorem D44_0 : decode prog_7_method_3_code 0 = .ok (.aload_n 0, 1) := by decide +kernel
theorem D44_1 : decode prog_7_method_3_code 1 = .ok (.getfield 35, 3) := by decide +kernel
theorem D44_4 : decode prog_7_method_3_code 4 = .ok (.bipush 24, 2) := by decide +kernel
theorem D44_6 : decode prog_7_method_3_code 6 = .ok (.if_icmp .lt 5, 3) := by decide +kernel
theorem D44_9 : decode prog_7_method_3_code 9 = .ok (.iconst (-1), 1) := by decide +kernel
theorem D44_10 : decode prog_7_method_3_code 10 = .ok (.ireturn, 1) := by decide +kernel
theorem D44_11 : decode prog_7_method_3_code 11 = .ok (.aload_n 0, 1) := by decide +kernel
theorem D44_12 : decode prog_7_method_3_code 12 = .ok (.getfield 15, 3) := by decide +kernel
theorem D44_15 : decode prog_7_method_3_code 15 = .ok (.aload_n 0, 1) := by decide +kernel
theorem D44_16 : decode prog_7_method_3_code 16 = .ok (.getfield 35, 3) := by decide +kernel
theorem D44_19 : decode prog_7_method_3_code 19 = .ok (.iload_n 1, 1) := by decide +kernel
theorem D44_20 : decode prog_7_method_3_code 20 = .ok (.iastore, 1) := by decide +kernel
theorem D44_21 : decode prog_7_method_3_code 21 = .ok (.aload_n 0, 1) := by decide +kernel
theorem D44_22 : decode prog_7_method_3_code 22 = .ok (.getfield 19, 3) := by decide +kernel
theorem D44_25 : decode prog_7_method_3_code 25 = .ok (.aload_n 0, 1) := by decide +kernel
theorem D44_26 : decode prog_7_method_3_code 26 = .ok (.getfield 35, 3) := by decide +kernel
theorem D44_29 : decode prog_7_method_3_code 29 = .ok (.iload_n 2, 1) := by decide +kernel
theorem D44_30 : decode prog_7_method_3_code 30 = .ok (.iastore, 1) := by decide +kernel
theorem D44_31 : decode prog_7_method_3_code 31 = .ok (.aload_n 0, 1) := by decide +kernel
theorem D44_32 : decode prog_7_method_3_code 32 = .ok (.getfield 22, 3) := by decide +kernel
theorem D44_35 : decode prog_7_method_3_code 35 = .ok (.aload_n 0, 1) := by decide +kernel
theorem D44_36 : decode prog_7_method_3_code 36 = .ok (.getfield 35, 3) := by decide +kernel
theorem D44_39 : decode prog_7_method_3_code 39 = .ok (.iload_n 3, 1) := by decide +kernel
theorem D44_40 : decode prog_7_method_3_code 40 = .ok (.iastore, 1) := by decide +kernel
theorem D44_41 : decode prog_7_method_3_code 41 = .ok (.aload_n 0, 1) := by decide +kernel
theorem D44_42 : decode prog_7_method_3_code 42 = .ok (.getfield 25, 3) := by decide +kernel
theorem D44_45 : decode prog_7_method_3_code 45 = .ok (.aload_n 0, 1) := by decide +kernel
theorem D44_46 : decode prog_7_method_3_code 46 = .ok (.getfield 35, 3) := by decide +kernel
theorem D44_49 : decode prog_7_method_3_code 49 = .ok (.iload 4, 2) := by decide +kernel
theorem D44_51 : decode prog_7_method_3_code 51 = .ok (.bastore, 1) := by decide +kernel
theorem D44_52 : decode prog_7_method_3_code 52 = .ok (.aload_n 0, 1) := by decide +kernel
theorem D44_53 : decode prog_7_method_3_code 53 = .ok (.getfield 29, 3) := by decide +kernel
theorem D44_56 : decode prog_7_method_3_code 56 = .ok (.aload_n 0, 1) := by decide +kernel
theorem D44_57 : decode prog_7_method_3_code 57 = .ok (.getfield 35, 3) := by decide +kernel
theorem D44_60 : decode prog_7_method_3_code 60 = .ok (.iconst (-1), 1) := by decide +kernel
theorem D44_61 : decode prog_7_method_3_code 61 = .ok (.iastore, 1) := by decide +kernel
theorem D44_62 : decode prog_7_method_3_code 62 = .ok (.aload_n 0, 1) := by decide +kernel
theorem D44_63 : decode prog_7_method_3_code 63 = .ok (.dup, 1) := by decide +kernel
theorem D44_64 : decode prog_7_method_3_code 64 = .ok (.getfield 35, 3) := by decide +kernel
theorem D44_67 : decode prog_7_method_3_code 67 = .ok (.iconst 1, 1) := by decide +kernel
theorem D44_68 : decode prog_7_method_3_code 68 = .ok (.iadd, 1) := by decide +kernel
theorem D44_69 : decode prog_7_method_3_code 69 = .ok (.putfield 35, 3) := by decide +kernel
theorem D44_72 : decode prog_7_method_3_code 72 = .ok (.aload_n 0, 1) := by decide +kernel
theorem D44_73 : decode prog_7_method_3_code 73 = .ok (.getfield 35, 3) := by decide +kernel
theorem D44_76 : decode prog_7_method_3_code 76 = .ok (.iconst 1, 1) := by decide +kernel
theorem D44_77 : decode prog_7_method_3_code 77 = .ok (.isub, 1) := by decide +kernel
theorem D44_78 : decode prog_7_method_3_code 78 = .ok (.ireturn, 1) := by decide +kernel

theorem b44_0 {d : Nat} {i1 : Int32} {i2 : Int32} {i3 : Int32} {i4 : Int32} {ia : Nat → Nat → Int32} {la : Nat → Nat → Int64} {pl dr : Nat} {cp : Option Nat} {cw : Option Nat} {rp : Option Nat} {K : Option Value → zHP → Prop}  : zWP d 44 0 [some (.ref 106), some (.int i1), some (.int i2), some (.int i3), some (.int i4)] [] (ia, la, zRA pl dr cp cw rp) K = (if (ia 106 0) < (24 : Int32) then (vp_in (ia 106 0) 24 ∧ (vp_in ((zu ia 107 ((ia 106 0)).toNatClampNeg i1) 106 0) 24 ∧ (vp_in ((zu (zu ia 107 ((ia 106 0)).toNatClampNeg i1) 108 (((zu ia 107 ((ia 106 0)).toNatClampNeg i1) 106 0)).toNatClampNeg i2) 106 0) 24 ∧ (vp_in ((zu (zu (zu ia 107 ((ia 106 0)).toNatClampNeg i1) 108 (((zu ia 107 ((ia 106 0)).toNatClampNeg i1) 106 0)).toNatClampNeg i2) 109 (((zu (zu ia 107 ((ia 106 0)).toNatClampNeg i1) 108 (((zu ia 107 ((ia 106 0)).toNatClampNeg i1) 106 0)).toNatClampNeg i2) 106 0)).toNatClampNeg i3) 106 0) 24 ∧ (vp_in ((zu (zu (zu (zu ia 107 ((ia 106 0)).toNatClampNeg i1) 108 (((zu ia 107 ((ia 106 0)).toNatClampNeg i1) 106 0)).toNatClampNeg i2) 109 (((zu (zu ia 107 ((ia 106 0)).toNatClampNeg i1) 108 (((zu ia 107 ((ia 106 0)).toNatClampNeg i1) 106 0)).toNatClampNeg i2) 106 0)).toNatClampNeg i3) 110 (((zu (zu (zu ia 107 ((ia 106 0)).toNatClampNeg i1) 108 (((zu ia 107 ((ia 106 0)).toNatClampNeg i1) 106 0)).toNatClampNeg i2) 109 (((zu (zu ia 107 ((ia 106 0)).toNatClampNeg i1) 108 (((zu ia 107 ((ia 106 0)).toNatClampNeg i1) 106 0)).toNatClampNeg i2) 106 0)).toNatClampNeg i3) 106 0)).toNatClampNeg (vp_nar .boolean i4)) 106 0) 24 ∧ K (some (.int (((zu (zu (zu (zu (zu (zu ia 107 ((ia 106 0)).toNatClampNeg i1) 108 (((zu ia 107 ((ia 106 0)).toNatClampNeg i1) 106 0)).toNatClampNeg i2) 109 (((zu (zu ia 107 ((ia 106 0)).toNatClampNeg i1) 108 (((zu ia 107 ((ia 106 0)).toNatClampNeg i1) 106 0)).toNatClampNeg i2) 106 0)).toNatClampNeg i3) 110 (((zu (zu (zu ia 107 ((ia 106 0)).toNatClampNeg i1) 108 (((zu ia 107 ((ia 106 0)).toNatClampNeg i1) 106 0)).toNatClampNeg i2) 109 (((zu (zu ia 107 ((ia 106 0)).toNatClampNeg i1) 108 (((zu ia 107 ((ia 106 0)).toNatClampNeg i1) 106 0)).toNatClampNeg i2) 106 0)).toNatClampNeg i3) 106 0)).toNatClampNeg (vp_nar .boolean i4)) 111 (((zu (zu (zu (zu ia 107 ((ia 106 0)).toNatClampNeg i1) 108 (((zu ia 107 ((ia 106 0)).toNatClampNeg i1) 106 0)).toNatClampNeg i2) 109 (((zu (zu ia 107 ((ia 106 0)).toNatClampNeg i1) 108 (((zu ia 107 ((ia 106 0)).toNatClampNeg i1) 106 0)).toNatClampNeg i2) 106 0)).toNatClampNeg i3) 110 (((zu (zu (zu ia 107 ((ia 106 0)).toNatClampNeg i1) 108 (((zu ia 107 ((ia 106 0)).toNatClampNeg i1) 106 0)).toNatClampNeg i2) 109 (((zu (zu ia 107 ((ia 106 0)).toNatClampNeg i1) 108 (((zu ia 107 ((ia 106 0)).toNatClampNeg i1) 106 0)).toNatClampNeg i2) 106 0)).toNatClampNeg i3) 106 0)).toNatClampNeg (vp_nar .boolean i4)) 106 0)).toNatClampNeg (-1 : Int32)) 106 0 (((zu (zu (zu (zu (zu ia 107 ((ia 106 0)).toNatClampNeg i1) 108 (((zu ia 107 ((ia 106 0)).toNatClampNeg i1) 106 0)).toNatClampNeg i2) 109 (((zu (zu ia 107 ((ia 106 0)).toNatClampNeg i1) 108 (((zu ia 107 ((ia 106 0)).toNatClampNeg i1) 106 0)).toNatClampNeg i2) 106 0)).toNatClampNeg i3) 110 (((zu (zu (zu ia 107 ((ia 106 0)).toNatClampNeg i1) 108 (((zu ia 107 ((ia 106 0)).toNatClampNeg i1) 106 0)).toNatClampNeg i2) 109 (((zu (zu ia 107 ((ia 106 0)).toNatClampNeg i1) 108 (((zu ia 107 ((ia 106 0)).toNatClampNeg i1) 106 0)).toNatClampNeg i2) 106 0)).toNatClampNeg i3) 106 0)).toNatClampNeg (vp_nar .boolean i4)) 111 (((zu (zu (zu (zu ia 107 ((ia 106 0)).toNatClampNeg i1) 108 (((zu ia 107 ((ia 106 0)).toNatClampNeg i1) 106 0)).toNatClampNeg i2) 109 (((zu (zu ia 107 ((ia 106 0)).toNatClampNeg i1) 108 (((zu ia 107 ((ia 106 0)).toNatClampNeg i1) 106 0)).toNatClampNeg i2) 106 0)).toNatClampNeg i3) 110 (((zu (zu (zu ia 107 ((ia 106 0)).toNatClampNeg i1) 108 (((zu ia 107 ((ia 106 0)).toNatClampNeg i1) 106 0)).toNatClampNeg i2) 109 (((zu (zu ia 107 ((ia 106 0)).toNatClampNeg i1) 108 (((zu ia 107 ((ia 106 0)).toNatClampNeg i1) 106 0)).toNatClampNeg i2) 106 0)).toNatClampNeg i3) 106 0)).toNatClampNeg (vp_nar .boolean i4)) 106 0)).toNatClampNeg (-1 : Int32)) 106 0) + (1 : Int32))) 106 0) - (1 : Int32)))) ((zu (zu (zu (zu (zu (zu ia 107 ((ia 106 0)).toNatClampNeg i1) 108 (((zu ia 107 ((ia 106 0)).toNatClampNeg i1) 106 0)).toNatClampNeg i2) 109 (((zu (zu ia 107 ((ia 106 0)).toNatClampNeg i1) 108 (((zu ia 107 ((ia 106 0)).toNatClampNeg i1) 106 0)).toNatClampNeg i2) 106 0)).toNatClampNeg i3) 110 (((zu (zu (zu ia 107 ((ia 106 0)).toNatClampNeg i1) 108 (((zu ia 107 ((ia 106 0)).toNatClampNeg i1) 106 0)).toNatClampNeg i2) 109 (((zu (zu ia 107 ((ia 106 0)).toNatClampNeg i1) 108 (((zu ia 107 ((ia 106 0)).toNatClampNeg i1) 106 0)).toNatClampNeg i2) 106 0)).toNatClampNeg i3) 106 0)).toNatClampNeg (vp_nar .boolean i4)) 111 (((zu (zu (zu (zu ia 107 ((ia 106 0)).toNatClampNeg i1) 108 (((zu ia 107 ((ia 106 0)).toNatClampNeg i1) 106 0)).toNatClampNeg i2) 109 (((zu (zu ia 107 ((ia 106 0)).toNatClampNeg i1) 108 (((zu ia 107 ((ia 106 0)).toNatClampNeg i1) 106 0)).toNatClampNeg i2) 106 0)).toNatClampNeg i3) 110 (((zu (zu (zu ia 107 ((ia 106 0)).toNatClampNeg i1) 108 (((zu ia 107 ((ia 106 0)).toNatClampNeg i1) 106 0)).toNatClampNeg i2) 109 (((zu (zu ia 107 ((ia 106 0)).toNatClampNeg i1) 108 (((zu ia 107 ((ia 106 0)).toNatClampNeg i1) 106 0)).toNatClampNeg i2) 106 0)).toNatClampNeg i3) 106 0)).toNatClampNeg (vp_nar .boolean i4)) 106 0)).toNatClampNeg (-1 : Int32)) 106 0 (((zu (zu (zu (zu (zu ia 107 ((ia 106 0)).toNatClampNeg i1) 108 (((zu ia 107 ((ia 106 0)).toNatClampNeg i1) 106 0)).toNatClampNeg i2) 109 (((zu (zu ia 107 ((ia 106 0)).toNatClampNeg i1) 108 (((zu ia 107 ((ia 106 0)).toNatClampNeg i1) 106 0)).toNatClampNeg i2) 106 0)).toNatClampNeg i3) 110 (((zu (zu (zu ia 107 ((ia 106 0)).toNatClampNeg i1) 108 (((zu ia 107 ((ia 106 0)).toNatClampNeg i1) 106 0)).toNatClampNeg i2) 109 (((zu (zu ia 107 ((ia 106 0)).toNatClampNeg i1) 108 (((zu ia 107 ((ia 106 0)).toNatClampNeg i1) 106 0)).toNatClampNeg i2) 106 0)).toNatClampNeg i3) 106 0)).toNatClampNeg (vp_nar .boolean i4)) 111 (((zu (zu (zu (zu ia 107 ((ia 106 0)).toNatClampNeg i1) 108 (((zu ia 107 ((ia 106 0)).toNatClampNeg i1) 106 0)).toNatClampNeg i2) 109 (((zu (zu ia 107 ((ia 106 0)).toNatClampNeg i1) 108 (((zu ia 107 ((ia 106 0)).toNatClampNeg i1) 106 0)).toNatClampNeg i2) 106 0)).toNatClampNeg i3) 110 (((zu (zu (zu ia 107 ((ia 106 0)).toNatClampNeg i1) 108 (((zu ia 107 ((ia 106 0)).toNatClampNeg i1) 106 0)).toNatClampNeg i2) 109 (((zu (zu ia 107 ((ia 106 0)).toNatClampNeg i1) 108 (((zu ia 107 ((ia 106 0)).toNatClampNeg i1) 106 0)).toNatClampNeg i2) 106 0)).toNatClampNeg i3) 106 0)).toNatClampNeg (vp_nar .boolean i4)) 106 0)).toNatClampNeg (-1 : Int32)) 106 0) + (1 : Int32))), la, zRA pl dr cp cw rp)))))) else K (some (.int (-1 : Int32))) (ia, la, zRA pl dr cp cw rp)) := by
  refine (Q_aload_n zm_44 (Or.inl (by decide)) D44_0 rfl).trans ?_
  refine (Q_getI zm_44 (Or.inl (by decide)) D44_1 zf_5_35 (Or.inl zs_5_0) zk_106.1).trans ?_
  refine (Q_bipush (v := 24) zm_44 (Or.inl (by decide)) D44_4 (by decide)).trans ?_
  refine (Q_ic_lt (tgt := 11) zm_44 (Or.inl (by decide)) D44_6 (by decide)).trans ?_
  refine zif_c (fun h0_ => ?_) (fun h0_ => ?_)
  · refine (Q_aload_n zm_44 (Or.inl (by decide)) D44_11 rfl).trans ?_
    refine (Q_getR (q := 107) zm_44 (Or.inl (by decide)) D44_12 zf_5_15 zs_5_3 zk_106.1 rfl).trans ?_
    refine (Q_aload_n zm_44 (Or.inl (by decide)) D44_15 rfl).trans ?_
    refine (Q_getI zm_44 (Or.inl (by decide)) D44_16 zf_5_35 (Or.inl zs_5_0) zk_106.1).trans ?_
    refine (Q_iload_n zm_44 (Or.inl (by decide)) D44_19 rfl).trans ?_
    refine (Q_iastore zm_44 (Or.inl (by decide)) D44_20 zk_107.1 zk_107.2).trans ?_
    refine zand_c (fun h1_ => ?_)
    refine (Q_aload_n zm_44 (Or.inl (by decide)) D44_21 rfl).trans ?_
    refine (Q_getR (q := 108) zm_44 (Or.inl (by decide)) D44_22 zf_5_19 zs_5_4 zk_106.1 rfl).trans ?_
    refine (Q_aload_n zm_44 (Or.inl (by decide)) D44_25 rfl).trans ?_
    refine (Q_getI zm_44 (Or.inl (by decide)) D44_26 zf_5_35 (Or.inl zs_5_0) zk_106.1).trans ?_
    refine (Q_iload_n zm_44 (Or.inl (by decide)) D44_29 rfl).trans ?_
    refine (Q_iastore zm_44 (Or.inl (by decide)) D44_30 zk_108.1 zk_108.2).trans ?_
    refine zand_c (fun h2_ => ?_)
    refine (Q_aload_n zm_44 (Or.inl (by decide)) D44_31 rfl).trans ?_
    refine (Q_getR (q := 109) zm_44 (Or.inl (by decide)) D44_32 zf_5_22 zs_5_5 zk_106.1 rfl).trans ?_
    refine (Q_aload_n zm_44 (Or.inl (by decide)) D44_35 rfl).trans ?_
    refine (Q_getI zm_44 (Or.inl (by decide)) D44_36 zf_5_35 (Or.inl zs_5_0) zk_106.1).trans ?_
    refine (Q_iload_n zm_44 (Or.inl (by decide)) D44_39 rfl).trans ?_
    refine (Q_iastore zm_44 (Or.inl (by decide)) D44_40 zk_109.1 zk_109.2).trans ?_
    refine zand_c (fun h3_ => ?_)
    refine (Q_aload_n zm_44 (Or.inl (by decide)) D44_41 rfl).trans ?_
    refine (Q_getR (q := 110) zm_44 (Or.inl (by decide)) D44_42 zf_5_25 zs_5_6 zk_106.1 rfl).trans ?_
    refine (Q_aload_n zm_44 (Or.inl (by decide)) D44_45 rfl).trans ?_
    refine (Q_getI zm_44 (Or.inl (by decide)) D44_46 zf_5_35 (Or.inl zs_5_0) zk_106.1).trans ?_
    refine (Q_iload zm_44 (Or.inl (by decide)) D44_49 rfl).trans ?_
    refine (Q_zastore zm_44 (Or.inl (by decide)) D44_51 zk_110.1 zk_110.2).trans ?_
    refine zand_c (fun h4_ => ?_)
    refine (Q_aload_n zm_44 (Or.inl (by decide)) D44_52 rfl).trans ?_
    refine (Q_getR (q := 111) zm_44 (Or.inl (by decide)) D44_53 zf_5_29 zs_5_7 zk_106.1 rfl).trans ?_
    refine (Q_aload_n zm_44 (Or.inl (by decide)) D44_56 rfl).trans ?_
    refine (Q_getI zm_44 (Or.inl (by decide)) D44_57 zf_5_35 (Or.inl zs_5_0) zk_106.1).trans ?_
    refine (Q_iconst (v := -1) zm_44 (Or.inl (by decide)) D44_60 (by decide)).trans ?_
    refine (Q_iastore zm_44 (Or.inl (by decide)) D44_61 zk_111.1 zk_111.2).trans ?_
    refine zand_c (fun h5_ => ?_)
    refine (Q_aload_n zm_44 (Or.inl (by decide)) D44_62 rfl).trans ?_
    refine (Q_dup zm_44 (Or.inl (by decide)) D44_63 rfl).trans ?_
    refine (Q_getI zm_44 (Or.inl (by decide)) D44_64 zf_5_35 (Or.inl zs_5_0) zk_106.1).trans ?_
    refine (Q_iconst (v := 1) zm_44 (Or.inl (by decide)) D44_67 (by decide)).trans ?_
    refine (Q_iadd zm_44 (Or.inl (by decide)) D44_68).trans ?_
    refine (Q_putI zm_44 (Or.inl (by decide)) D44_69 zf_5_35 zs_5_0 rfl zk_106.1).trans ?_
    refine (Q_aload_n zm_44 (Or.inl (by decide)) D44_72 rfl).trans ?_
    refine (Q_getI zm_44 (Or.inl (by decide)) D44_73 zf_5_35 (Or.inl zs_5_0) zk_106.1).trans ?_
    refine (Q_iconst (v := 1) zm_44 (Or.inl (by decide)) D44_76 (by decide)).trans ?_
    refine (Q_isub zm_44 (Or.inl (by decide)) D44_77).trans ?_
    exact Q_ireturn zm_44 (Or.inl (by decide)) D44_78 rfl
  · refine (Q_iconst (v := -1) zm_44 (Or.inl (by decide)) D44_9 (by decide)).trans ?_
    exact Q_ireturn zm_44 (Or.inl (by decide)) D44_10 rfl

/-! HandsLet$Sight.addStrike(I)I -/
theorem D45_0 : decode prog_7_method_4_code 0 = .ok (.iload_n 1, 1) := by decide +kernel
theorem D45_1 : decode prog_7_method_4_code 1 = .ok (.ifCond .lt 20, 3) := by decide +kernel
theorem D45_4 : decode prog_7_method_4_code 4 = .ok (.iload_n 1, 1) := by decide +kernel
theorem D45_5 : decode prog_7_method_4_code 5 = .ok (.aload_n 0, 1) := by decide +kernel
theorem D45_6 : decode prog_7_method_4_code 6 = .ok (.getfield 35, 3) := by decide +kernel
theorem D45_9 : decode prog_7_method_4_code 9 = .ok (.if_icmp .ge 12, 3) := by decide +kernel
theorem D45_12 : decode prog_7_method_4_code 12 = .ok (.aload_n 0, 1) := by decide +kernel
theorem D45_13 : decode prog_7_method_4_code 13 = .ok (.getfield 35, 3) := by decide +kernel
theorem D45_16 : decode prog_7_method_4_code 16 = .ok (.bipush 24, 2) := by decide +kernel
theorem D45_18 : decode prog_7_method_4_code 18 = .ok (.if_icmp .lt 5, 3) := by decide +kernel
theorem D45_21 : decode prog_7_method_4_code 21 = .ok (.iconst (-1), 1) := by decide +kernel
theorem D45_22 : decode prog_7_method_4_code 22 = .ok (.ireturn, 1) := by decide +kernel
theorem D45_23 : decode prog_7_method_4_code 23 = .ok (.aload_n 0, 1) := by decide +kernel
theorem D45_24 : decode prog_7_method_4_code 24 = .ok (.getfield 29, 3) := by decide +kernel
theorem D45_27 : decode prog_7_method_4_code 27 = .ok (.aload_n 0, 1) := by decide +kernel
theorem D45_28 : decode prog_7_method_4_code 28 = .ok (.getfield 35, 3) := by decide +kernel
theorem D45_31 : decode prog_7_method_4_code 31 = .ok (.iload_n 1, 1) := by decide +kernel
theorem D45_32 : decode prog_7_method_4_code 32 = .ok (.iastore, 1) := by decide +kernel
theorem D45_33 : decode prog_7_method_4_code 33 = .ok (.aload_n 0, 1) := by decide +kernel
theorem D45_34 : decode prog_7_method_4_code 34 = .ok (.dup, 1) := by decide +kernel
theorem D45_35 : decode prog_7_method_4_code 35 = .ok (.getfield 35, 3) := by decide +kernel
theorem D45_38 : decode prog_7_method_4_code 38 = .ok (.iconst 1, 1) := by decide +kernel
theorem D45_39 : decode prog_7_method_4_code 39 = .ok (.iadd, 1) := by decide +kernel
theorem D45_40 : decode prog_7_method_4_code 40 = .ok (.putfield 35, 3) := by decide +kernel
theorem D45_43 : decode prog_7_method_4_code 43 = .ok (.aload_n 0, 1) := by decide +kernel
theorem D45_44 : decode prog_7_method_4_code 44 = .ok (.getfield 35, 3) := by decide +kernel
theorem D45_47 : decode prog_7_method_4_code 47 = .ok (.iconst 1, 1) := by decide +kernel
theorem D45_48 : decode prog_7_method_4_code 48 = .ok (.isub, 1) := by decide +kernel
theorem D45_49 : decode prog_7_method_4_code 49 = .ok (.ireturn, 1) := by decide +kernel

theorem b45_0 {d : Nat} {i1 : Int32} {ia : Nat → Nat → Int32} {la : Nat → Nat → Int64} {pl dr : Nat} {cp : Option Nat} {cw : Option Nat} {rp : Option Nat} {K : Option Value → zHP → Prop}  : zWP d 45 0 [some (.ref 106), some (.int i1)] [] (ia, la, zRA pl dr cp cw rp) K = (if i1 < 0 then K (some (.int (-1 : Int32))) (ia, la, zRA pl dr cp cw rp) else (if (ia 106 0) ≤ i1 then K (some (.int (-1 : Int32))) (ia, la, zRA pl dr cp cw rp) else (if (ia 106 0) < (24 : Int32) then (vp_in (ia 106 0) 24 ∧ K (some (.int (((zu (zu ia 111 ((ia 106 0)).toNatClampNeg i1) 106 0 (((zu ia 111 ((ia 106 0)).toNatClampNeg i1) 106 0) + (1 : Int32))) 106 0) - (1 : Int32)))) ((zu (zu ia 111 ((ia 106 0)).toNatClampNeg i1) 106 0 (((zu ia 111 ((ia 106 0)).toNatClampNeg i1) 106 0) + (1 : Int32))), la, zRA pl dr cp cw rp)) else K (some (.int (-1 : Int32))) (ia, la, zRA pl dr cp cw rp)))) := by
  refine (Q_iload_n zm_45 (Or.inl (by decide)) D45_0 rfl).trans ?_
  refine (Q_if_lt (tgt := 21) zm_45 (Or.inl (by decide)) D45_1 (by decide)).trans ?_
  refine zif_c (fun h0_ => ?_) (fun h0_ => ?_)
  · refine (Q_iconst (v := -1) zm_45 (Or.inl (by decide)) D45_21 (by decide)).trans ?_
    exact Q_ireturn zm_45 (Or.inl (by decide)) D45_22 rfl
  · refine (Q_iload_n zm_45 (Or.inl (by decide)) D45_4 rfl).trans ?_
    refine (Q_aload_n zm_45 (Or.inl (by decide)) D45_5 rfl).trans ?_
    refine (Q_getI zm_45 (Or.inl (by decide)) D45_6 zf_5_35 (Or.inl zs_5_0) zk_106.1).trans ?_
    refine (Q_ic_ge (tgt := 21) zm_45 (Or.inl (by decide)) D45_9 (by decide)).trans ?_
    refine zif_c (fun h1_ => ?_) (fun h1_ => ?_)
    · refine (Q_iconst (v := -1) zm_45 (Or.inl (by decide)) D45_21 (by decide)).trans ?_
      exact Q_ireturn zm_45 (Or.inl (by decide)) D45_22 rfl
    · refine (Q_aload_n zm_45 (Or.inl (by decide)) D45_12 rfl).trans ?_
      refine (Q_getI zm_45 (Or.inl (by decide)) D45_13 zf_5_35 (Or.inl zs_5_0) zk_106.1).trans ?_
      refine (Q_bipush (v := 24) zm_45 (Or.inl (by decide)) D45_16 (by decide)).trans ?_
      refine (Q_ic_lt (tgt := 23) zm_45 (Or.inl (by decide)) D45_18 (by decide)).trans ?_
      refine zif_c (fun h2_ => ?_) (fun h2_ => ?_)
      · refine (Q_aload_n zm_45 (Or.inl (by decide)) D45_23 rfl).trans ?_
        refine (Q_getR (q := 111) zm_45 (Or.inl (by decide)) D45_24 zf_5_29 zs_5_7 zk_106.1 rfl).trans ?_
        refine (Q_aload_n zm_45 (Or.inl (by decide)) D45_27 rfl).trans ?_
        refine (Q_getI zm_45 (Or.inl (by decide)) D45_28 zf_5_35 (Or.inl zs_5_0) zk_106.1).trans ?_
        refine (Q_iload_n zm_45 (Or.inl (by decide)) D45_31 rfl).trans ?_
        refine (Q_iastore zm_45 (Or.inl (by decide)) D45_32 zk_111.1 zk_111.2).trans ?_
        refine zand_c (fun h3_ => ?_)
        refine (Q_aload_n zm_45 (Or.inl (by decide)) D45_33 rfl).trans ?_
        refine (Q_dup zm_45 (Or.inl (by decide)) D45_34 rfl).trans ?_
        refine (Q_getI zm_45 (Or.inl (by decide)) D45_35 zf_5_35 (Or.inl zs_5_0) zk_106.1).trans ?_
        refine (Q_iconst (v := 1) zm_45 (Or.inl (by decide)) D45_38 (by decide)).trans ?_
        refine (Q_iadd zm_45 (Or.inl (by decide)) D45_39).trans ?_
        refine (Q_putI zm_45 (Or.inl (by decide)) D45_40 zf_5_35 zs_5_0 rfl zk_106.1).trans ?_
        refine (Q_aload_n zm_45 (Or.inl (by decide)) D45_43 rfl).trans ?_
        refine (Q_getI zm_45 (Or.inl (by decide)) D45_44 zf_5_35 (Or.inl zs_5_0) zk_106.1).trans ?_
        refine (Q_iconst (v := 1) zm_45 (Or.inl (by decide)) D45_47 (by decide)).trans ?_
        refine (Q_isub zm_45 (Or.inl (by decide)) D45_48).trans ?_
        exact Q_ireturn zm_45 (Or.inl (by decide)) D45_49 rfl
      · refine (Q_iconst (v := -1) zm_45 (Or.inl (by decide)) D45_21 (by decide)).trans ?_
        exact Q_ireturn zm_45 (Or.inl (by decide)) D45_22 rfl

/-! HandsLet$Sight.knowBy(I)Z -/
theorem D46_0 : decode prog_7_method_5_code 0 = .ok (.iload_n 1, 1) := by decide +kernel
theorem D46_1 : decode prog_7_method_5_code 1 = .ok (.iconst (-1), 1) := by decide +kernel
theorem D46_2 : decode prog_7_method_5_code 2 = .ok (.if_icmp .lt 11, 3) := by decide +kernel
theorem D46_5 : decode prog_7_method_5_code 5 = .ok (.iload_n 1, 1) := by decide +kernel
theorem D46_6 : decode prog_7_method_5_code 6 = .ok (.aload_n 0, 1) := by decide +kernel
theorem D46_7 : decode prog_7_method_5_code 7 = .ok (.getfield 35, 3) := by decide +kernel
theorem D46_10 : decode prog_7_method_5_code 10 = .ok (.if_icmp .le 5, 3) := by decide +kernel
theorem D46_13 : decode prog_7_method_5_code 13 = .ok (.iconst 0, 1) := by decide +kernel
theorem D46_14 : decode prog_7_method_5_code 14 = .ok (.ireturn, 1) := by decide +kernel
theorem D46_15 : decode prog_7_method_5_code 15 = .ok (.aload_n 0, 1) := by decide +kernel
theorem D46_16 : decode prog_7_method_5_code 16 = .ok (.iload_n 1, 1) := by decide +kernel
theorem D46_17 : decode prog_7_method_5_code 17 = .ok (.putfield 9, 3) := by decide +kernel
theorem D46_20 : decode prog_7_method_5_code 20 = .ok (.iconst 1, 1) := by decide +kernel
theorem D46_21 : decode prog_7_method_5_code 21 = .ok (.ireturn, 1) := by decide +kernel

theorem b46_0 {d : Nat} {i1 : Int32} {ia : Nat → Nat → Int32} {la : Nat → Nat → Int64} {pl dr : Nat} {cp : Option Nat} {cw : Option Nat} {rp : Option Nat} {K : Option Value → zHP → Prop}  : zWP d 46 0 [some (.ref 106), some (.int i1)] [] (ia, la, zRA pl dr cp cw rp) K = (if i1 < (-1 : Int32) then K (some (.int (0 : Int32))) (ia, la, zRA pl dr cp cw rp) else (if i1 ≤ (ia 106 0) then K (some (.int (1 : Int32))) ((zu ia 106 2 i1), la, zRA pl dr cp cw rp) else K (some (.int (0 : Int32))) (ia, la, zRA pl dr cp cw rp))) := by
  refine (Q_iload_n zm_46 (Or.inl (by decide)) D46_0 rfl).trans ?_
  refine (Q_iconst (v := -1) zm_46 (Or.inl (by decide)) D46_1 (by decide)).trans ?_
  refine (Q_ic_lt (tgt := 13) zm_46 (Or.inl (by decide)) D46_2 (by decide)).trans ?_
  refine zif_c (fun h0_ => ?_) (fun h0_ => ?_)
  · refine (Q_iconst (v := 0) zm_46 (Or.inl (by decide)) D46_13 (by decide)).trans ?_
    exact Q_zreturn zm_46 (Or.inl (by decide)) D46_14 rfl (by decide)
  · refine (Q_iload_n zm_46 (Or.inl (by decide)) D46_5 rfl).trans ?_
    refine (Q_aload_n zm_46 (Or.inl (by decide)) D46_6 rfl).trans ?_
    refine (Q_getI zm_46 (Or.inl (by decide)) D46_7 zf_5_35 (Or.inl zs_5_0) zk_106.1).trans ?_
    refine (Q_ic_le (tgt := 15) zm_46 (Or.inl (by decide)) D46_10 (by decide)).trans ?_
    refine zif_c (fun h1_ => ?_) (fun h1_ => ?_)
    · refine (Q_aload_n zm_46 (Or.inl (by decide)) D46_15 rfl).trans ?_
      refine (Q_iload_n zm_46 (Or.inl (by decide)) D46_16 rfl).trans ?_
      refine (Q_putI zm_46 (Or.inl (by decide)) D46_17 zf_5_9 zs_5_2 rfl zk_106.1).trans ?_
      refine (Q_iconst (v := 1) zm_46 (Or.inl (by decide)) D46_20 (by decide)).trans ?_
      exact Q_zreturn zm_46 (Or.inl (by decide)) D46_21 rfl (by decide)
    · refine (Q_iconst (v := 0) zm_46 (Or.inl (by decide)) D46_13 (by decide)).trans ?_
      exact Q_zreturn zm_46 (Or.inl (by decide)) D46_14 rfl (by decide)

/-! HandsLet$Sight.knownMany()I -/
theorem D47_0 : decode prog_7_method_6_code 0 = .ok (.aload_n 0, 1) := by decide +kernel
theorem D47_1 : decode prog_7_method_6_code 1 = .ok (.getfield 9, 3) := by decide +kernel
theorem D47_4 : decode prog_7_method_6_code 4 = .ok (.iconst (-1), 1) := by decide +kernel
theorem D47_5 : decode prog_7_method_6_code 5 = .ok (.if_icmp .ne 10, 3) := by decide +kernel
theorem D47_8 : decode prog_7_method_6_code 8 = .ok (.aload_n 0, 1) := by decide +kernel
theorem D47_9 : decode prog_7_method_6_code 9 = .ok (.getfield 35, 3) := by decide +kernel
theorem D47_12 : decode prog_7_method_6_code 12 = .ok (.goto 7, 3) := by decide +kernel
theorem D47_15 : decode prog_7_method_6_code 15 = .ok (.aload_n 0, 1) := by decide +kernel
theorem D47_16 : decode prog_7_method_6_code 16 = .ok (.getfield 9, 3) := by decide +kernel
theorem D47_19 : decode prog_7_method_6_code 19 = .ok (.ireturn, 1) := by decide +kernel

theorem b47_0 {d : Nat}  {ia : Nat → Nat → Int32} {la : Nat → Nat → Int64} {pl dr : Nat} {cp : Option Nat} {cw : Option Nat} {rp : Option Nat} {K : Option Value → zHP → Prop}  : zWP d 47 0 [some (.ref 106)] [] (ia, la, zRA pl dr cp cw rp) K = (if ¬ (ia 106 2) = (-1 : Int32) then K (some (.int (ia 106 2))) (ia, la, zRA pl dr cp cw rp) else K (some (.int (ia 106 0))) (ia, la, zRA pl dr cp cw rp)) := by
  refine (Q_aload_n zm_47 (Or.inl (by decide)) D47_0 rfl).trans ?_
  refine (Q_getI zm_47 (Or.inl (by decide)) D47_1 zf_5_9 (Or.inl zs_5_2) zk_106.1).trans ?_
  refine (Q_iconst (v := -1) zm_47 (Or.inl (by decide)) D47_4 (by decide)).trans ?_
  refine (Q_ic_ne (tgt := 15) zm_47 (Or.inl (by decide)) D47_5 (by decide)).trans ?_
  refine zif_c (fun h0_ => ?_) (fun h0_ => ?_)
  · refine (Q_aload_n zm_47 (Or.inl (by decide)) D47_15 rfl).trans ?_
    refine (Q_getI zm_47 (Or.inl (by decide)) D47_16 zf_5_9 (Or.inl zs_5_2) zk_106.1).trans ?_
    exact Q_ireturn zm_47 (Or.inl (by decide)) D47_19 rfl
  · refine (Q_aload_n zm_47 (Or.inl (by decide)) D47_8 rfl).trans ?_
    refine (Q_getI zm_47 (Or.inl (by decide)) D47_9 zf_5_35 (Or.inl zs_5_0) zk_106.1).trans ?_
    refine (Q_goto (tgt := 19) zm_47 (Or.inl (by decide)) D47_12 (by decide)).trans ?_
    exact Q_ireturn zm_47 (Or.inl (by decide)) D47_19 rfl

/-! HandsLet$Sight.weigh()V -/
theorem D48_0 : decode prog_7_method_7_code 0 = .ok (.aload_n 0, 1) := by decide +kernel
theorem D48_1 : decode prog_7_method_7_code 1 = .ok (.invokevirtual 38, 3) := by decide +kernel
theorem D48_4 : decode prog_7_method_7_code 4 = .ok (.istore_n 1, 1) := by decide +kernel
theorem D48_5 : decode prog_7_method_7_code 5 = .ok (.iconst 0, 1) := by decide +kernel
theorem D48_6 : decode prog_7_method_7_code 6 = .ok (.istore_n 2, 1) := by decide +kernel
theorem D48_7 : decode prog_7_method_7_code 7 = .ok (.iload_n 2, 1) := by decide +kernel
theorem D48_8 : decode prog_7_method_7_code 8 = .ok (.bipush 24, 2) := by decide +kernel
theorem D48_10 : decode prog_7_method_7_code 10 = .ok (.if_icmp .ge 25, 3) := by decide +kernel
theorem D48_13 : decode prog_7_method_7_code 13 = .ok (.aload_n 0, 1) := by decide +kernel
theorem D48_14 : decode prog_7_method_7_code 14 = .ok (.getfield 32, 3) := by decide +kernel
theorem D48_17 : decode prog_7_method_7_code 17 = .ok (.iload_n 2, 1) := by decide +kernel
theorem D48_18 : decode prog_7_method_7_code 18 = .ok (.iload_n 2, 1) := by decide +kernel
theorem D48_19 : decode prog_7_method_7_code 19 = .ok (.iload_n 1, 1) := by decide +kernel
theorem D48_20 : decode prog_7_method_7_code 20 = .ok (.if_icmp .ge 7, 3) := by decide +kernel
theorem D48_23 : decode prog_7_method_7_code 23 = .ok (.iconst 1, 1) := by decide +kernel
theorem D48_24 : decode prog_7_method_7_code 24 = .ok (.goto 4, 3) := by decide +kernel
theorem D48_27 : decode prog_7_method_7_code 27 = .ok (.iconst 0, 1) := by decide +kernel
theorem D48_28 : decode prog_7_method_7_code 28 = .ok (.bastore, 1) := by decide +kernel
theorem D48_29 : decode prog_7_method_7_code 29 = .ok (.iinc 2 1, 3) := by decide +kernel
theorem D48_32 : decode prog_7_method_7_code 32 = .ok (.goto (-25), 3) := by decide +kernel
theorem D48_35 : decode prog_7_method_7_code 35 = .ok (.aload_n 0, 1) := by decide +kernel
theorem D48_36 : decode prog_7_method_7_code 36 = .ok (.iconst 0, 1) := by decide +kernel
theorem D48_37 : decode prog_7_method_7_code 37 = .ok (.putfield 42, 3) := by decide +kernel
theorem D48_40 : decode prog_7_method_7_code 40 = .ok (.iload_n 1, 1) := by decide +kernel
theorem D48_41 : decode prog_7_method_7_code 41 = .ok (.iconst 1, 1) := by decide +kernel
theorem D48_42 : decode prog_7_method_7_code 42 = .ok (.isub, 1) := by decide +kernel
theorem D48_43 : decode prog_7_method_7_code 43 = .ok (.istore_n 2, 1) := by decide +kernel
theorem D48_44 : decode prog_7_method_7_code 44 = .ok (.iload_n 2, 1) := by decide +kernel
theorem D48_45 : decode prog_7_method_7_code 45 = .ok (.ifCond .lt 75, 3) := by decide +kernel
theorem D48_48 : decode prog_7_method_7_code 48 = .ok (.aload_n 0, 1) := by decide +kernel
theorem D48_49 : decode prog_7_method_7_code 49 = .ok (.getfield 32, 3) := by decide +kernel
theorem D48_52 : decode prog_7_method_7_code 52 = .ok (.iload_n 2, 1) := by decide +kernel
theorem D48_53 : decode prog_7_method_7_code 53 = .ok (.baload, 1) := by decide +kernel
theorem D48_54 : decode prog_7_method_7_code 54 = .ok (.ifCond .eq 34, 3) := by decide +kernel
theorem D48_57 : decode prog_7_method_7_code 57 = .ok (.aload_n 0, 1) := by decide +kernel
theorem D48_58 : decode prog_7_method_7_code 58 = .ok (.getfield 29, 3) := by decide +kernel
theorem D48_61 : decode prog_7_method_7_code 61 = .ok (.iload_n 2, 1) := by decide +kernel
theorem D48_62 : decode prog_7_method_7_code 62 = .ok (.iaload, 1) := by decide +kernel
theorem D48_63 : decode prog_7_method_7_code 63 = .ok (.ifCond .lt 25, 3) := by decide +kernel
theorem D48_66 : decode prog_7_method_7_code 66 = .ok (.aload_n 0, 1) := by decide +kernel
theorem D48_67 : decode prog_7_method_7_code 67 = .ok (.getfield 32, 3) := by decide +kernel
theorem D48_70 : decode prog_7_method_7_code 70 = .ok (.aload_n 0, 1) := by decide +kernel
theorem D48_71 : decode prog_7_method_7_code 71 = .ok (.getfield 29, 3) := by decide +kernel
theorem D48_74 : decode prog_7_method_7_code 74 = .ok (.iload_n 2, 1) := by decide +kernel
theorem D48_75 : decode prog_7_method_7_code 75 = .ok (.iaload, 1) := by decide +kernel
theorem D48_76 : decode prog_7_method_7_code 76 = .ok (.iconst 0, 1) := by decide +kernel
theorem D48_77 : decode prog_7_method_7_code 77 = .ok (.bastore, 1) := by decide +kernel
theorem D48_78 : decode prog_7_method_7_code 78 = .ok (.aload_n 0, 1) := by decide +kernel
theorem D48_79 : decode prog_7_method_7_code 79 = .ok (.getfield 32, 3) := by decide +kernel
theorem D48_82 : decode prog_7_method_7_code 82 = .ok (.iload_n 2, 1) := by decide +kernel
theorem D48_83 : decode prog_7_method_7_code 83 = .ok (.iconst 0, 1) := by decide +kernel
theorem D48_84 : decode prog_7_method_7_code 84 = .ok (.bastore, 1) := by decide +kernel
theorem D48_85 : decode prog_7_method_7_code 85 = .ok (.goto 29, 3) := by decide +kernel
theorem D48_88 : decode prog_7_method_7_code 88 = .ok (.aload_n 0, 1) := by decide +kernel
theorem D48_89 : decode prog_7_method_7_code 89 = .ok (.getfield 32, 3) := by decide +kernel
theorem D48_92 : decode prog_7_method_7_code 92 = .ok (.iload_n 2, 1) := by decide +kernel
theorem D48_93 : decode prog_7_method_7_code 93 = .ok (.baload, 1) := by decide +kernel
theorem D48_94 : decode prog_7_method_7_code 94 = .ok (.ifCond .eq 20, 3) := by decide +kernel
theorem D48_97 : decode prog_7_method_7_code 97 = .ok (.aload_n 0, 1) := by decide +kernel
theorem D48_98 : decode prog_7_method_7_code 98 = .ok (.aload_n 0, 1) := by decide +kernel
theorem D48_99 : decode prog_7_method_7_code 99 = .ok (.getfield 42, 3) := by decide +kernel
theorem D48_102 : decode prog_7_method_7_code 102 = .ok (.aload_n 0, 1) := by decide +kernel
theorem D48_103 : decode prog_7_method_7_code 103 = .ok (.getfield 15, 3) := by decide +kernel
theorem D48_106 : decode prog_7_method_7_code 106 = .ok (.iload_n 2, 1) := by decide +kernel
theorem D48_107 : decode prog_7_method_7_code 107 = .ok (.iaload, 1) := by decide +kernel
theorem D48_108 : decode prog_7_method_7_code 108 = .ok (.invokestatic 45, 3) := by decide +kernel
theorem D48_111 : decode prog_7_method_7_code 111 = .ok (.putfield 42, 3) := by decide +kernel
theorem D48_114 : decode prog_7_method_7_code 114 = .ok (.iinc 2 (-1), 3) := by decide +kernel
theorem D48_117 : decode prog_7_method_7_code 117 = .ok (.goto (-73), 3) := by decide +kernel
theorem D48_120 : decode prog_7_method_7_code 120 = .ok (.return_, 1) := by decide +kernel

theorem b48_0 {d : Nat}  {ia : Nat → Nat → Int32} {la : Nat → Nat → Int64} {pl dr : Nat} {cp : Option Nat} {cw : Option Nat} {rp : Option Nat} {K : Option Value → zHP → Prop}  : zWP (d + 1) 48 0 [some (.ref 106), none, none] [] (ia, la, zRA pl dr cp cw rp) K = zWM d 47 [.ref 106] (ia, la, zRA pl dr cp cw rp) (zK (d + 1) 48 4 [some (.ref 106), none, none] [] K) := by
  refine (Q_aload_n zm_48 (Or.inl (by decide)) D48_0 rfl).trans ?_
  exact Q_callv (as := []) (b := 106) (rest := []) zm_48 (Or.inl (by decide)) D48_1 zc_5_38 rfl zk_106.1 (by decide) (by decide +kernel) (by decide) (by simp [zcat, Value.category]) zm_47 rfl

theorem b48_4 {d : Nat} {s0 : Int32} {ia : Nat → Nat → Int32} {la : Nat → Nat → Int64} {pl dr : Nat} {cp : Option Nat} {cw : Option Nat} {rp : Option Nat} {K : Option Value → zHP → Prop}  : zWP d 48 4 [some (.ref 106), none, none] [.int s0] (ia, la, zRA pl dr cp cw rp) K = zWP d 48 7 [some (.ref 106), some (.int s0), some (.int (0 : Int32))] [] (ia, la, zRA pl dr cp cw rp) K := by
  refine (Q_istore_n (ls' := [some (.ref 106), some (.int s0), none]) zm_48 (Or.inl (by decide)) D48_4 rfl (Nat.le_of_ble_eq_true rfl) rfl).trans ?_
  refine (Q_iconst (v := 0) zm_48 (Or.inl (by decide)) D48_5 (by decide)).trans ?_
  refine (Q_istore_n (ls' := [some (.ref 106), some (.int s0), some (.int (0 : Int32))]) zm_48 (Or.inl (by decide)) D48_6 rfl (Nat.le_of_ble_eq_true rfl) rfl).trans ?_
  rfl

theorem b48_7 {d : Nat} {i1 : Int32} {i2 : Int32} {ia : Nat → Nat → Int32} {la : Nat → Nat → Int64} {pl dr : Nat} {cp : Option Nat} {cw : Option Nat} {rp : Option Nat} {K : Option Value → zHP → Prop}  : zWP d 48 7 [some (.ref 106), some (.int i1), some (.int i2)] [] (ia, la, zRA pl dr cp cw rp) K = (if (24 : Int32) ≤ i2 then zWP d 48 44 [some (.ref 106), some (.int i1), some (.int (i1 - (1 : Int32)))] [] ((zu ia 106 1 (0 : Int32)), la, zRA pl dr cp cw rp) K else (if i1 ≤ i2 then (vp_in i2 24 ∧ zWP d 48 7 [some (.ref 106), some (.int i1), some (.int (i2 + (1 : Int32)))] [] ((zu ia 112 (i2).toNatClampNeg (vp_nar .boolean (0 : Int32))), la, zRA pl dr cp cw rp) K) else (vp_in i2 24 ∧ zWP d 48 7 [some (.ref 106), some (.int i1), some (.int (i2 + (1 : Int32)))] [] ((zu ia 112 (i2).toNatClampNeg (vp_nar .boolean (1 : Int32))), la, zRA pl dr cp cw rp) K))) := by
  refine (Q_iload_n zm_48 (Or.inl (by decide)) D48_7 rfl).trans ?_
  refine (Q_bipush (v := 24) zm_48 (Or.inl (by decide)) D48_8 (by decide)).trans ?_
  refine (Q_ic_ge (tgt := 35) zm_48 (Or.inl (by decide)) D48_10 (by decide)).trans ?_
  refine zif_c (fun h0_ => ?_) (fun h0_ => ?_)
  · refine (Q_aload_n zm_48 (Or.inl (by decide)) D48_35 rfl).trans ?_
    refine (Q_iconst (v := 0) zm_48 (Or.inl (by decide)) D48_36 (by decide)).trans ?_
    refine (Q_putI zm_48 (Or.inl (by decide)) D48_37 zf_5_42 zs_5_1 rfl zk_106.1).trans ?_
    refine (Q_iload_n zm_48 (Or.inl (by decide)) D48_40 rfl).trans ?_
    refine (Q_iconst (v := 1) zm_48 (Or.inl (by decide)) D48_41 (by decide)).trans ?_
    refine (Q_isub zm_48 (Or.inl (by decide)) D48_42).trans ?_
    refine (Q_istore_n (ls' := [some (.ref 106), some (.int i1), some (.int (i1 - (1 : Int32)))]) zm_48 (Or.inl (by decide)) D48_43 rfl (Nat.le_of_ble_eq_true rfl) rfl).trans ?_
    rfl
  · refine (Q_aload_n zm_48 (Or.inl (by decide)) D48_13 rfl).trans ?_
    refine (Q_getR (q := 112) zm_48 (Or.inl (by decide)) D48_14 zf_5_32 zs_5_8 zk_106.1 rfl).trans ?_
    refine (Q_iload_n zm_48 (Or.inl (by decide)) D48_17 rfl).trans ?_
    refine (Q_iload_n zm_48 (Or.inl (by decide)) D48_18 rfl).trans ?_
    refine (Q_iload_n zm_48 (Or.inl (by decide)) D48_19 rfl).trans ?_
    refine (Q_ic_ge (tgt := 27) zm_48 (Or.inl (by decide)) D48_20 (by decide)).trans ?_
    refine zif_c (fun h1_ => ?_) (fun h1_ => ?_)
    · refine (Q_iconst (v := 0) zm_48 (Or.inl (by decide)) D48_27 (by decide)).trans ?_
      refine (Q_zastore zm_48 (Or.inl (by decide)) D48_28 zk_112.1 zk_112.2).trans ?_
      refine zand_c (fun h2_ => ?_)
      refine (Q_iinc (v := 1) (ls' := [some (.ref 106), some (.int i1), some (.int (i2 + (1 : Int32)))]) zm_48 (Or.inl (by decide)) D48_29 rfl rfl (by decide) rfl).trans ?_
      refine (Q_goto (tgt := 7) zm_48 (Or.inl (by decide)) D48_32 (by decide)).trans ?_
      rfl
    · refine (Q_iconst (v := 1) zm_48 (Or.inl (by decide)) D48_23 (by decide)).trans ?_
      refine (Q_goto (tgt := 28) zm_48 (Or.inl (by decide)) D48_24 (by decide)).trans ?_
      refine (Q_zastore zm_48 (Or.inl (by decide)) D48_28 zk_112.1 zk_112.2).trans ?_
      refine zand_c (fun h3_ => ?_)
      refine (Q_iinc (v := 1) (ls' := [some (.ref 106), some (.int i1), some (.int (i2 + (1 : Int32)))]) zm_48 (Or.inl (by decide)) D48_29 rfl rfl (by decide) rfl).trans ?_
      refine (Q_goto (tgt := 7) zm_48 (Or.inl (by decide)) D48_32 (by decide)).trans ?_
      rfl

theorem b48_44 {d : Nat} {i1 : Int32} {i2 : Int32} {ia : Nat → Nat → Int32} {la : Nat → Nat → Int64} {pl dr : Nat} {cp : Option Nat} {cw : Option Nat} {rp : Option Nat} {K : Option Value → zHP → Prop}  : zWP d 48 44 [some (.ref 106), some (.int i1), some (.int i2)] [] (ia, la, zRA pl dr cp cw rp) K = (if i2 < 0 then K none (ia, la, zRA pl dr cp cw rp) else (vp_in i2 24 ∧ (if (ia 112 (i2).toNatClampNeg) = 0 then zWP d 48 88 [some (.ref 106), some (.int i1), some (.int i2)] [] (ia, la, zRA pl dr cp cw rp) K else (if (ia 111 (i2).toNatClampNeg) < 0 then zWP d 48 88 [some (.ref 106), some (.int i1), some (.int i2)] [] (ia, la, zRA pl dr cp cw rp) K else (vp_in (ia 111 (i2).toNatClampNeg) 24 ∧ zWP d 48 44 [some (.ref 106), some (.int i1), some (.int (i2 + (-1 : Int32)))] [] ((zu (zu ia 112 ((ia 111 (i2).toNatClampNeg)).toNatClampNeg (vp_nar .boolean (0 : Int32))) 112 (i2).toNatClampNeg (vp_nar .boolean (0 : Int32))), la, zRA pl dr cp cw rp) K))))) := by
  refine (Q_iload_n zm_48 (Or.inl (by decide)) D48_44 rfl).trans ?_
  refine (Q_if_lt (tgt := 120) zm_48 (Or.inl (by decide)) D48_45 (by decide)).trans ?_
  refine zif_c (fun h0_ => ?_) (fun h0_ => ?_)
  · exact Q_return zm_48 (Or.inl (by decide)) D48_120 rfl
  · refine (Q_aload_n zm_48 (Or.inl (by decide)) D48_48 rfl).trans ?_
    refine (Q_getR (q := 112) zm_48 (Or.inl (by decide)) D48_49 zf_5_32 zs_5_8 zk_106.1 rfl).trans ?_
    refine (Q_iload_n zm_48 (Or.inl (by decide)) D48_52 rfl).trans ?_
    refine (Q_baload zm_48 (Or.inl (by decide)) D48_53 zk_112.1 (by decide) zk_112.2).trans ?_
    refine zand_c (fun h1_ => ?_)
    refine (Q_if_eq (tgt := 88) zm_48 (Or.inl (by decide)) D48_54 (by decide)).trans ?_
    refine zif_c (fun h2_ => ?_) (fun h2_ => ?_)
    · rfl
    · refine (Q_aload_n zm_48 (Or.inl (by decide)) D48_57 rfl).trans ?_
      refine (Q_getR (q := 111) zm_48 (Or.inl (by decide)) D48_58 zf_5_29 zs_5_7 zk_106.1 rfl).trans ?_
      refine (Q_iload_n zm_48 (Or.inl (by decide)) D48_61 rfl).trans ?_
      refine ((Q_iaload zm_48 (Or.inl (by decide)) D48_62 zk_111.1 zk_111.2).trans (zdrop h1_)).trans ?_
      refine (Q_if_lt (tgt := 88) zm_48 (Or.inl (by decide)) D48_63 (by decide)).trans ?_
      refine zif_c (fun h3_ => ?_) (fun h3_ => ?_)
      · rfl
      · refine (Q_aload_n zm_48 (Or.inl (by decide)) D48_66 rfl).trans ?_
        refine (Q_getR (q := 112) zm_48 (Or.inl (by decide)) D48_67 zf_5_32 zs_5_8 zk_106.1 rfl).trans ?_
        refine (Q_aload_n zm_48 (Or.inl (by decide)) D48_70 rfl).trans ?_
        refine (Q_getR (q := 111) zm_48 (Or.inl (by decide)) D48_71 zf_5_29 zs_5_7 zk_106.1 rfl).trans ?_
        refine (Q_iload_n zm_48 (Or.inl (by decide)) D48_74 rfl).trans ?_
        refine ((Q_iaload zm_48 (Or.inl (by decide)) D48_75 zk_111.1 zk_111.2).trans (zdrop h1_)).trans ?_
        refine (Q_iconst (v := 0) zm_48 (Or.inl (by decide)) D48_76 (by decide)).trans ?_
        refine (Q_zastore zm_48 (Or.inl (by decide)) D48_77 zk_112.1 zk_112.2).trans ?_
        refine zand_c (fun h4_ => ?_)
        refine (Q_aload_n zm_48 (Or.inl (by decide)) D48_78 rfl).trans ?_
        refine (Q_getR (q := 112) zm_48 (Or.inl (by decide)) D48_79 zf_5_32 zs_5_8 zk_106.1 rfl).trans ?_
        refine (Q_iload_n zm_48 (Or.inl (by decide)) D48_82 rfl).trans ?_
        refine (Q_iconst (v := 0) zm_48 (Or.inl (by decide)) D48_83 (by decide)).trans ?_
        refine ((Q_zastore zm_48 (Or.inl (by decide)) D48_84 zk_112.1 zk_112.2).trans (zdrop h1_)).trans ?_
        refine (Q_goto (tgt := 114) zm_48 (Or.inl (by decide)) D48_85 (by decide)).trans ?_
        refine (Q_iinc (v := -1) (ls' := [some (.ref 106), some (.int i1), some (.int (i2 + (-1 : Int32)))]) zm_48 (Or.inl (by decide)) D48_114 rfl rfl (by decide) rfl).trans ?_
        refine (Q_goto (tgt := 44) zm_48 (Or.inl (by decide)) D48_117 (by decide)).trans ?_
        rfl

theorem b48_88 {d : Nat} {i1 : Int32} {i2 : Int32} {ia : Nat → Nat → Int32} {la : Nat → Nat → Int64} {pl dr : Nat} {cp : Option Nat} {cw : Option Nat} {rp : Option Nat} {K : Option Value → zHP → Prop}  : zWP (d + 5) 48 88 [some (.ref 106), some (.int i1), some (.int i2)] [] (ia, la, zRA pl dr cp cw rp) K = (vp_in i2 24 ∧ (if (ia 112 (i2).toNatClampNeg) = 0 then zWP (d + 5) 48 44 [some (.ref 106), some (.int i1), some (.int (i2 + (-1 : Int32)))] [] (ia, la, zRA pl dr cp cw rp) K else zWP (d + 5) 48 44 [some (.ref 106), some (.int i1), some (.int (i2 + (-1 : Int32)))] [] ((zu ia 106 1 (if (ia 106 1) < (ia 107 (i2).toNatClampNeg) then (ia 107 (i2).toNatClampNeg) else (ia 106 1))), la, zRA pl dr cp cw rp) K)) := by
  refine (Q_aload_n zm_48 (Or.inl (by decide)) D48_88 rfl).trans ?_
  refine (Q_getR (q := 112) zm_48 (Or.inl (by decide)) D48_89 zf_5_32 zs_5_8 zk_106.1 rfl).trans ?_
  refine (Q_iload_n zm_48 (Or.inl (by decide)) D48_92 rfl).trans ?_
  refine (Q_baload zm_48 (Or.inl (by decide)) D48_93 zk_112.1 (by decide) zk_112.2).trans ?_
  refine zand_c (fun h0_ => ?_)
  refine (Q_if_eq (tgt := 114) zm_48 (Or.inl (by decide)) D48_94 (by decide)).trans ?_
  refine zif_c (fun h1_ => ?_) (fun h1_ => ?_)
  · refine (Q_iinc (v := -1) (ls' := [some (.ref 106), some (.int i1), some (.int (i2 + (-1 : Int32)))]) zm_48 (Or.inl (by decide)) D48_114 rfl rfl (by decide) rfl).trans ?_
    refine (Q_goto (tgt := 44) zm_48 (Or.inl (by decide)) D48_117 (by decide)).trans ?_
    rfl
  · refine (Q_aload_n zm_48 (Or.inl (by decide)) D48_97 rfl).trans ?_
    refine (Q_aload_n zm_48 (Or.inl (by decide)) D48_98 rfl).trans ?_
    refine (Q_getI zm_48 (Or.inl (by decide)) D48_99 zf_5_42 (Or.inl zs_5_1) zk_106.1).trans ?_
    refine (Q_aload_n zm_48 (Or.inl (by decide)) D48_102 rfl).trans ?_
    refine (Q_getR (q := 107) zm_48 (Or.inl (by decide)) D48_103 zf_5_15 zs_5_3 zk_106.1 rfl).trans ?_
    refine (Q_iload_n zm_48 (Or.inl (by decide)) D48_106 rfl).trans ?_
    refine ((Q_iaload zm_48 (Or.inl (by decide)) D48_107 zk_107.1 zk_107.2).trans (zdrop h0_)).trans ?_
    refine (Q_bis (as := [.int (ia 106 1), .int (ia 107 (i2).toNatClampNeg)]) (rest := [.ref 106]) zm_48 (Or.inl (by decide)) D48_108 zc_5_45 rfl (by decide) (by simp [zcat, Value.category]) rfl).trans ?_
    refine (Q_putI zm_48 (Or.inl (by decide)) D48_111 zf_5_42 zs_5_1 rfl zk_106.1).trans ?_
    refine (Q_iinc (v := -1) (ls' := [some (.ref 106), some (.int i1), some (.int (i2 + (-1 : Int32)))]) zm_48 (Or.inl (by decide)) D48_114 rfl rfl (by decide) rfl).trans ?_
    refine (Q_goto (tgt := 44) zm_48 (Or.inl (by decide)) D48_117 (by decide)).trans ?_
    rfl

/-! HandsLet$Sight.agrees(I[I)Z -/
theorem D49_0 : decode prog_7_method_8_code 0 = .ok (.iconst 0, 1) := by decide +kernel
theorem D49_1 : decode prog_7_method_8_code 1 = .ok (.istore_n 3, 1) := by decide +kernel
theorem D49_2 : decode prog_7_method_8_code 2 = .ok (.iload_n 3, 1) := by decide +kernel
theorem D49_3 : decode prog_7_method_8_code 3 = .ok (.aload_n 0, 1) := by decide +kernel
theorem D49_4 : decode prog_7_method_8_code 4 = .ok (.getfield 35, 3) := by decide +kernel
theorem D49_7 : decode prog_7_method_8_code 7 = .ok (.if_icmp .ge 65, 3) := by decide +kernel
theorem D49_10 : decode prog_7_method_8_code 10 = .ok (.aload_n 0, 1) := by decide +kernel
theorem D49_11 : decode prog_7_method_8_code 11 = .ok (.getfield 32, 3) := by decide +kernel
theorem D49_14 : decode prog_7_method_8_code 14 = .ok (.iload_n 3, 1) := by decide +kernel
theorem D49_15 : decode prog_7_method_8_code 15 = .ok (.baload, 1) := by decide +kernel
theorem D49_16 : decode prog_7_method_8_code 16 = .ok (.ifCond .eq 50, 3) := by decide +kernel
theorem D49_19 : decode prog_7_method_8_code 19 = .ok (.aload_n 0, 1) := by decide +kernel
theorem D49_20 : decode prog_7_method_8_code 20 = .ok (.getfield 15, 3) := by decide +kernel
theorem D49_23 : decode prog_7_method_8_code 23 = .ok (.iload_n 3, 1) := by decide +kernel
theorem D49_24 : decode prog_7_method_8_code 24 = .ok (.iaload, 1) := by decide +kernel
theorem D49_25 : decode prog_7_method_8_code 25 = .ok (.iload_n 1, 1) := by decide +kernel
theorem D49_26 : decode prog_7_method_8_code 26 = .ok (.if_icmp .ne 40, 3) := by decide +kernel
theorem D49_29 : decode prog_7_method_8_code 29 = .ok (.aload_n 2, 1) := by decide +kernel
theorem D49_30 : decode prog_7_method_8_code 30 = .ok (.aload_n 0, 1) := by decide +kernel
theorem D49_31 : decode prog_7_method_8_code 31 = .ok (.getfield 19, 3) := by decide +kernel
theorem D49_34 : decode prog_7_method_8_code 34 = .ok (.iload_n 3, 1) := by decide +kernel
theorem D49_35 : decode prog_7_method_8_code 35 = .ok (.iaload, 1) := by decide +kernel
theorem D49_36 : decode prog_7_method_8_code 36 = .ok (.iaload, 1) := by decide +kernel
theorem D49_37 : decode prog_7_method_8_code 37 = .ok (.sipush 1000, 3) := by decide +kernel
theorem D49_40 : decode prog_7_method_8_code 40 = .ok (.idiv, 1) := by decide +kernel
theorem D49_41 : decode prog_7_method_8_code 41 = .ok (.aload_n 0, 1) := by decide +kernel
theorem D49_42 : decode prog_7_method_8_code 42 = .ok (.getfield 22, 3) := by decide +kernel
theorem D49_45 : decode prog_7_method_8_code 45 = .ok (.iload_n 3, 1) := by decide +kernel
theorem D49_46 : decode prog_7_method_8_code 46 = .ok (.iaload, 1) := by decide +kernel
theorem D49_47 : decode prog_7_method_8_code 47 = .ok (.if_icmp .lt 7, 3) := by decide +kernel
theorem D49_50 : decode prog_7_method_8_code 50 = .ok (.iconst 1, 1) := by decide +kernel
theorem D49_51 : decode prog_7_method_8_code 51 = .ok (.goto 4, 3) := by decide +kernel
theorem D49_54 : decode prog_7_method_8_code 54 = .ok (.iconst 0, 1) := by decide +kernel
theorem D49_55 : decode prog_7_method_8_code 55 = .ok (.aload_n 0, 1) := by decide +kernel
theorem D49_56 : decode prog_7_method_8_code 56 = .ok (.getfield 25, 3) := by decide +kernel
theorem D49_59 : decode prog_7_method_8_code 59 = .ok (.iload_n 3, 1) := by decide +kernel
theorem D49_60 : decode prog_7_method_8_code 60 = .ok (.baload, 1) := by decide +kernel
theorem D49_61 : decode prog_7_method_8_code 61 = .ok (.if_icmp .eq 5, 3) := by decide +kernel
theorem D49_64 : decode prog_7_method_8_code 64 = .ok (.iconst 0, 1) := by decide +kernel
theorem D49_65 : decode prog_7_method_8_code 65 = .ok (.ireturn, 1) := by decide +kernel
theorem D49_66 : decode prog_7_method_8_code 66 = .ok (.iinc 3 1, 3) := by decide +kernel
theorem D49_69 : decode prog_7_method_8_code 69 = .ok (.goto (-67), 3) := by decide +kernel
theorem D49_72 : decode prog_7_method_8_code 72 = .ok (.iconst 1, 1) := by decide +kernel
theorem D49_73 : decode prog_7_method_8_code 73 = .ok (.ireturn, 1) := by decide +kernel

theorem b49_0 {d : Nat} {i1 : Int32} {r2 : Nat} {ia : Nat → Nat → Int32} {la : Nat → Nat → Int64} {pl dr : Nat} {cp : Option Nat} {cw : Option Nat} {rp : Option Nat} {K : Option Value → zHP → Prop}  : zWP d 49 0 [some (.ref 106), some (.int i1), some (.ref r2), none] [] (ia, la, zRA pl dr cp cw rp) K = zWP d 49 2 [some (.ref 106), some (.int i1), some (.ref r2), some (.int (0 : Int32))] [] (ia, la, zRA pl dr cp cw rp) K := by
  refine (Q_iconst (v := 0) zm_49 (Or.inl (by decide)) D49_0 (by decide)).trans ?_
  refine (Q_istore_n (ls' := [some (.ref 106), some (.int i1), some (.ref r2), some (.int (0 : Int32))]) zm_49 (Or.inl (by decide)) D49_1 rfl (Nat.le_of_ble_eq_true rfl) rfl).trans ?_
  rfl

theorem b49_2 {d : Nat} {i1 : Int32} {r2 : Nat} {i3 : Int32} {ia : Nat → Nat → Int32} {la : Nat → Nat → Int64} {pl dr : Nat} {cp : Option Nat} {cw : Option Nat} {rp : Option Nat} {K : Option Value → zHP → Prop}  : zWP d 49 2 [some (.ref 106), some (.int i1), some (.ref r2), some (.int i3)] [] (ia, la, zRA pl dr cp cw rp) K = (if (ia 106 0) ≤ i3 then K (some (.int (1 : Int32))) (ia, la, zRA pl dr cp cw rp) else (vp_in i3 24 ∧ (if (ia 112 (i3).toNatClampNeg) = 0 then zWP d 49 2 [some (.ref 106), some (.int i1), some (.ref r2), some (.int (i3 + (1 : Int32)))] [] (ia, la, zRA pl dr cp cw rp) K else (if ¬ (ia 107 (i3).toNatClampNeg) = i1 then zWP d 49 2 [some (.ref 106), some (.int i1), some (.ref r2), some (.int (i3 + (1 : Int32)))] [] (ia, la, zRA pl dr cp cw rp) K else ((zkd r2 = 100 ∧ vp_in (ia 108 (i3).toNatClampNeg) (zln r2)) ∧ (if ((ia r2 ((ia 108 (i3).toNatClampNeg)).toNatClampNeg) / (1000 : Int32)) < (ia 109 (i3).toNatClampNeg) then (if (0 : Int32) = (ia 110 (i3).toNatClampNeg) then zWP d 49 2 [some (.ref 106), some (.int i1), some (.ref r2), some (.int (i3 + (1 : Int32)))] [] (ia, la, zRA pl dr cp cw rp) K else K (some (.int (0 : Int32))) (ia, la, zRA pl dr cp cw rp)) else (if (1 : Int32) = (ia 110 (i3).toNatClampNeg) then zWP d 49 2 [some (.ref 106), some (.int i1), some (.ref r2), some (.int (i3 + (1 : Int32)))] [] (ia, la, zRA pl dr cp cw rp) K else K (some (.int (0 : Int32))) (ia, la, zRA pl dr cp cw rp)))))))) := by
  refine (Q_iload_n zm_49 (Or.inl (by decide)) D49_2 rfl).trans ?_
  refine (Q_aload_n zm_49 (Or.inl (by decide)) D49_3 rfl).trans ?_
  refine (Q_getI zm_49 (Or.inl (by decide)) D49_4 zf_5_35 (Or.inl zs_5_0) zk_106.1).trans ?_
  refine (Q_ic_ge (tgt := 72) zm_49 (Or.inl (by decide)) D49_7 (by decide)).trans ?_
  refine zif_c (fun h0_ => ?_) (fun h0_ => ?_)
  · refine (Q_iconst (v := 1) zm_49 (Or.inl (by decide)) D49_72 (by decide)).trans ?_
    exact Q_zreturn zm_49 (Or.inl (by decide)) D49_73 rfl (by decide)
  · refine (Q_aload_n zm_49 (Or.inl (by decide)) D49_10 rfl).trans ?_
    refine (Q_getR (q := 112) zm_49 (Or.inl (by decide)) D49_11 zf_5_32 zs_5_8 zk_106.1 rfl).trans ?_
    refine (Q_iload_n zm_49 (Or.inl (by decide)) D49_14 rfl).trans ?_
    refine (Q_baload zm_49 (Or.inl (by decide)) D49_15 zk_112.1 (by decide) zk_112.2).trans ?_
    refine zand_c (fun h1_ => ?_)
    refine (Q_if_eq (tgt := 66) zm_49 (Or.inl (by decide)) D49_16 (by decide)).trans ?_
    refine zif_c (fun h2_ => ?_) (fun h2_ => ?_)
    · refine (Q_iinc (v := 1) (ls' := [some (.ref 106), some (.int i1), some (.ref r2), some (.int (i3 + (1 : Int32)))]) zm_49 (Or.inl (by decide)) D49_66 rfl rfl (by decide) rfl).trans ?_
      refine (Q_goto (tgt := 2) zm_49 (Or.inl (by decide)) D49_69 (by decide)).trans ?_
      rfl
    · refine (Q_aload_n zm_49 (Or.inl (by decide)) D49_19 rfl).trans ?_
      refine (Q_getR (q := 107) zm_49 (Or.inl (by decide)) D49_20 zf_5_15 zs_5_3 zk_106.1 rfl).trans ?_
      refine (Q_iload_n zm_49 (Or.inl (by decide)) D49_23 rfl).trans ?_
      refine ((Q_iaload zm_49 (Or.inl (by decide)) D49_24 zk_107.1 zk_107.2).trans (zdrop h1_)).trans ?_
      refine (Q_iload_n zm_49 (Or.inl (by decide)) D49_25 rfl).trans ?_
      refine (Q_ic_ne (tgt := 66) zm_49 (Or.inl (by decide)) D49_26 (by decide)).trans ?_
      refine zif_c (fun h3_ => ?_) (fun h3_ => ?_)
      · refine (Q_iinc (v := 1) (ls' := [some (.ref 106), some (.int i1), some (.ref r2), some (.int (i3 + (1 : Int32)))]) zm_49 (Or.inl (by decide)) D49_66 rfl rfl (by decide) rfl).trans ?_
        refine (Q_goto (tgt := 2) zm_49 (Or.inl (by decide)) D49_69 (by decide)).trans ?_
        rfl
      · refine (Q_aload_n zm_49 (Or.inl (by decide)) D49_29 rfl).trans ?_
        refine (Q_aload_n zm_49 (Or.inl (by decide)) D49_30 rfl).trans ?_
        refine (Q_getR (q := 108) zm_49 (Or.inl (by decide)) D49_31 zf_5_19 zs_5_4 zk_106.1 rfl).trans ?_
        refine (Q_iload_n zm_49 (Or.inl (by decide)) D49_34 rfl).trans ?_
        refine ((Q_iaload zm_49 (Or.inl (by decide)) D49_35 zk_108.1 zk_108.2).trans (zdrop h1_)).trans ?_
        refine (Q_ialoadV zm_49 (Or.inl (by decide)) D49_36 (by decide)).trans ?_
        refine zand_c (fun h4_ => ?_)
        refine (Q_sipush (v := 1000) zm_49 (Or.inl (by decide)) D49_37 (by decide)).trans ?_
        refine (Q_idiv zm_49 (Or.inl (by decide)) D49_40 (by decide)).trans ?_
        refine (Q_aload_n zm_49 (Or.inl (by decide)) D49_41 rfl).trans ?_
        refine (Q_getR (q := 109) zm_49 (Or.inl (by decide)) D49_42 zf_5_22 zs_5_5 zk_106.1 rfl).trans ?_
        refine (Q_iload_n zm_49 (Or.inl (by decide)) D49_45 rfl).trans ?_
        refine ((Q_iaload zm_49 (Or.inl (by decide)) D49_46 zk_109.1 zk_109.2).trans (zdrop h1_)).trans ?_
        refine (Q_ic_lt (tgt := 54) zm_49 (Or.inl (by decide)) D49_47 (by decide)).trans ?_
        refine zif_c (fun h5_ => ?_) (fun h5_ => ?_)
        · refine (Q_iconst (v := 0) zm_49 (Or.inl (by decide)) D49_54 (by decide)).trans ?_
          refine (Q_aload_n zm_49 (Or.inl (by decide)) D49_55 rfl).trans ?_
          refine (Q_getR (q := 110) zm_49 (Or.inl (by decide)) D49_56 zf_5_25 zs_5_6 zk_106.1 rfl).trans ?_
          refine (Q_iload_n zm_49 (Or.inl (by decide)) D49_59 rfl).trans ?_
          refine ((Q_baload zm_49 (Or.inl (by decide)) D49_60 zk_110.1 (by decide) zk_110.2).trans (zdrop h1_)).trans ?_
          refine (Q_ic_eq (tgt := 66) zm_49 (Or.inl (by decide)) D49_61 (by decide)).trans ?_
          refine zif_c (fun h6_ => ?_) (fun h6_ => ?_)
          · refine (Q_iinc (v := 1) (ls' := [some (.ref 106), some (.int i1), some (.ref r2), some (.int (i3 + (1 : Int32)))]) zm_49 (Or.inl (by decide)) D49_66 rfl rfl (by decide) rfl).trans ?_
            refine (Q_goto (tgt := 2) zm_49 (Or.inl (by decide)) D49_69 (by decide)).trans ?_
            rfl
          · refine (Q_iconst (v := 0) zm_49 (Or.inl (by decide)) D49_64 (by decide)).trans ?_
            exact Q_zreturn zm_49 (Or.inl (by decide)) D49_65 rfl (by decide)
        · refine (Q_iconst (v := 1) zm_49 (Or.inl (by decide)) D49_50 (by decide)).trans ?_
          refine (Q_goto (tgt := 55) zm_49 (Or.inl (by decide)) D49_51 (by decide)).trans ?_
          refine (Q_aload_n zm_49 (Or.inl (by decide)) D49_55 rfl).trans ?_
          refine (Q_getR (q := 110) zm_49 (Or.inl (by decide)) D49_56 zf_5_25 zs_5_6 zk_106.1 rfl).trans ?_
          refine (Q_iload_n zm_49 (Or.inl (by decide)) D49_59 rfl).trans ?_
          refine ((Q_baload zm_49 (Or.inl (by decide)) D49_60 zk_110.1 (by decide) zk_110.2).trans (zdrop h1_)).trans ?_
          refine (Q_ic_eq (tgt := 66) zm_49 (Or.inl (by decide)) D49_61 (by decide)).trans ?_
          refine zif_c (fun h7_ => ?_) (fun h7_ => ?_)
          · refine (Q_iinc (v := 1) (ls' := [some (.ref 106), some (.int i1), some (.ref r2), some (.int (i3 + (1 : Int32)))]) zm_49 (Or.inl (by decide)) D49_66 rfl rfl (by decide) rfl).trans ?_
            refine (Q_goto (tgt := 2) zm_49 (Or.inl (by decide)) D49_69 (by decide)).trans ?_
            rfl
          · refine (Q_iconst (v := 0) zm_49 (Or.inl (by decide)) D49_64 (by decide)).trans ?_
            exact Q_zreturn zm_49 (Or.inl (by decide)) D49_65 rfl (by decide)

/-! HandsLet$Sums.tellNames(LHandsLet$World;III)V -/
theorem D50_0 : decode prog_8_method_2_code 0 = .ok (.iconst 0, 1) := by decide +kernel
theorem D50_1 : decode prog_8_method_2_code 1 = .ok (.istore 5, 2) := by decide +kernel
theorem D50_3 : decode prog_8_method_2_code 3 = .ok (.iload 5, 2) := by decide +kernel
theorem D50_5 : decode prog_8_method_2_code 5 = .ok (.iconst 3, 1) := by decide +kernel
theorem D50_6 : decode prog_8_method_2_code 6 = .ok (.if_icmp .ge 32, 3) := by decide +kernel
theorem D50_9 : decode prog_8_method_2_code 9 = .ok (.aload_n 0, 1) := by decide +kernel
theorem D50_10 : decode prog_8_method_2_code 10 = .ok (.getfield 9, 3) := by decide +kernel
theorem D50_13 : decode prog_8_method_2_code 13 = .ok (.iload 5, 2) := by decide +kernel
theorem D50_15 : decode prog_8_method_2_code 15 = .ok (.aload_n 1, 1) := by decide +kernel
theorem D50_16 : decode prog_8_method_2_code 16 = .ok (.getfield 18, 3) := by decide +kernel
theorem D50_19 : decode prog_8_method_2_code 19 = .ok (.iload_n 2, 1) := by decide +kernel
theorem D50_20 : decode prog_8_method_2_code 20 = .ok (.iconst 3, 1) := by decide +kernel
theorem D50_21 : decode prog_8_method_2_code 21 = .ok (.imul, 1) := by decide +kernel
theorem D50_22 : decode prog_8_method_2_code 22 = .ok (.iload 5, 2) := by decide +kernel
theorem D50_24 : decode prog_8_method_2_code 24 = .ok (.iadd, 1) := by decide +kernel
theorem D50_25 : decode prog_8_method_2_code 25 = .ok (.iaload, 1) := by decide +kernel
theorem D50_26 : decode prog_8_method_2_code 26 = .ok (.sipush 1000, 3) := by decide +kernel
theorem D50_29 : decode prog_8_method_2_code 29 = .ok (.idiv, 1) := by decide +kernel
theorem D50_30 : decode prog_8_method_2_code 30 = .ok (.i2l, 1) := by decide +kernel
theorem D50_31 : decode prog_8_method_2_code 31 = .ok (.lastore, 1) := by decide +kernel
theorem D50_32 : decode prog_8_method_2_code 32 = .ok (.iinc 5 1, 3) := by decide +kernel
theorem D50_35 : decode prog_8_method_2_code 35 = .ok (.goto (-32), 3) := by decide +kernel
theorem D50_38 : decode prog_8_method_2_code 38 = .ok (.aload_n 0, 1) := by decide +kernel
theorem D50_39 : decode prog_8_method_2_code 39 = .ok (.getfield 9, 3) := by decide +kernel
theorem D50_42 : decode prog_8_method_2_code 42 = .ok (.iconst 3, 1) := by decide +kernel
theorem D50_43 : decode prog_8_method_2_code 43 = .ok (.aload_n 1, 1) := by decide +kernel
theorem D50_44 : decode prog_8_method_2_code 44 = .ok (.getfield 24, 3) := by decide +kernel
theorem D50_47 : decode prog_8_method_2_code 47 = .ok (.iload_n 3, 1) := by decide +kernel
theorem D50_48 : decode prog_8_method_2_code 48 = .ok (.iaload, 1) := by decide +kernel
theorem D50_49 : decode prog_8_method_2_code 49 = .ok (.i2l, 1) := by decide +kernel
theorem D50_50 : decode prog_8_method_2_code 50 = .ok (.lastore, 1) := by decide +kernel
theorem D50_51 : decode prog_8_method_2_code 51 = .ok (.aload_n 0, 1) := by decide +kernel
theorem D50_52 : decode prog_8_method_2_code 52 = .ok (.getfield 9, 3) := by decide +kernel
theorem D50_55 : decode prog_8_method_2_code 55 = .ok (.iconst 4, 1) := by decide +kernel
theorem D50_56 : decode prog_8_method_2_code 56 = .ok (.iload 4, 2) := by decide +kernel
theorem D50_58 : decode prog_8_method_2_code 58 = .ok (.i2l, 1) := by decide +kernel
theorem D50_59 : decode prog_8_method_2_code 59 = .ok (.lastore, 1) := by decide +kernel
theorem D50_60 : decode prog_8_method_2_code 60 = .ok (.aload_n 0, 1) := by decide +kernel
theorem D50_61 : decode prog_8_method_2_code 61 = .ok (.getfield 9, 3) := by decide +kernel
theorem D50_64 : decode prog_8_method_2_code 64 = .ok (.iconst 5, 1) := by decide +kernel
theorem D50_65 : decode prog_8_method_2_code 65 = .ok (.aload_n 1, 1) := by decide +kernel
theorem D50_66 : decode prog_8_method_2_code 66 = .ok (.getfield 27, 3) := by decide +kernel
theorem D50_69 : decode prog_8_method_2_code 69 = .ok (.iload_n 2, 1) := by decide +kernel
theorem D50_70 : decode prog_8_method_2_code 70 = .ok (.iaload, 1) := by decide +kernel
theorem D50_71 : decode prog_8_method_2_code 71 = .ok (.i2l, 1) := by decide +kernel
theorem D50_72 : decode prog_8_method_2_code 72 = .ok (.lastore, 1) := by decide +kernel
theorem D50_73 : decode prog_8_method_2_code 73 = .ok (.aload_n 0, 1) := by decide +kernel
theorem D50_74 : decode prog_8_method_2_code 74 = .ok (.getfield 9, 3) := by decide +kernel
theorem D50_77 : decode prog_8_method_2_code 77 = .ok (.bipush 6, 2) := by decide +kernel
theorem D50_79 : decode prog_8_method_2_code 79 = .ok (.aload_n 1, 1) := by decide +kernel
theorem D50_80 : decode prog_8_method_2_code 80 = .ok (.getfield 30, 3) := by decide +kernel
theorem D50_83 : decode prog_8_method_2_code 83 = .ok (.i2l, 1) := by decide +kernel
theorem D50_84 : decode prog_8_method_2_code 84 = .ok (.lastore, 1) := by decide +kernel
theorem D50_85 : decode prog_8_method_2_code 85 = .ok (.return_, 1) := by decide +kernel

theorem b50_0 {d : Nat} {w1 : Nat} {i2 : Int32} {i3 : Int32} {i4 : Int32} {ia : Nat → Nat → Int32} {la : Nat → Nat → Int64} {pl dr : Nat} {cp : Option Nat} {cw : Option Nat} {rp : Option Nat} {K : Option Value → zHP → Prop} (hw1 : zIsW w1) : zWP d 50 0 [some (.ref 103), some (.ref w1), some (.int i2), some (.int i3), some (.int i4), none] [] (ia, la, zRA pl dr cp cw rp) K = zWP d 50 3 [some (.ref 103), some (.ref w1), some (.int i2), some (.int i3), some (.int i4), some (.int (0 : Int32))] [] (ia, la, zRA pl dr cp cw rp) K := by
  refine (Q_iconst (v := 0) zm_50 (Or.inl (by decide)) D50_0 (by decide)).trans ?_
  refine (Q_istore (ls' := [some (.ref 103), some (.ref w1), some (.int i2), some (.int i3), some (.int i4), some (.int (0 : Int32))]) zm_50 (Or.inl (by decide)) D50_1 rfl (Nat.le_of_ble_eq_true rfl) rfl).trans ?_
  rfl

theorem b50_3 {d : Nat} {w1 : Nat} {i2 : Int32} {i3 : Int32} {i4 : Int32} {i5 : Int32} {ia : Nat → Nat → Int32} {la : Nat → Nat → Int64} {pl dr : Nat} {cp : Option Nat} {cw : Option Nat} {rp : Option Nat} {K : Option Value → zHP → Prop} (hw1 : zIsW w1) : zWP d 50 3 [some (.ref 103), some (.ref w1), some (.int i2), some (.int i3), some (.int i4), some (.int i5)] [] (ia, la, zRA pl dr cp cw rp) K = (if (3 : Int32) ≤ i5 then (vp_in i3 6 ∧ (vp_in i2 6 ∧ K none (ia, (zu (zu (zu (zu la 104 3 ((ia (w1 + 1) (i3).toNatClampNeg)).toInt64) 104 4 (i4).toInt64) 104 5 ((ia (w1 + 5) (i2).toNatClampNeg)).toInt64) 104 6 ((ia w1 0)).toInt64), zRA pl dr cp cw rp))) else (vp_in ((i2 * (3 : Int32)) + i5) 18 ∧ (vp_in i5 7 ∧ zWP d 50 3 [some (.ref 103), some (.ref w1), some (.int i2), some (.int i3), some (.int i4), some (.int (i5 + (1 : Int32)))] [] (ia, (zu la 104 (i5).toNatClampNeg (((ia (w1 + 2) (((i2 * (3 : Int32)) + i5)).toNatClampNeg) / (1000 : Int32))).toInt64), zRA pl dr cp cw rp) K))) := by
  refine (Q_iload zm_50 (Or.inl (by decide)) D50_3 rfl).trans ?_
  refine (Q_iconst (v := 3) zm_50 (Or.inl (by decide)) D50_5 (by decide)).trans ?_
  refine (Q_ic_ge (tgt := 38) zm_50 (Or.inl (by decide)) D50_6 (by decide)).trans ?_
  refine zif_c (fun h0_ => ?_) (fun h0_ => ?_)
  · refine (Q_aload_n zm_50 (Or.inl (by decide)) D50_38 rfl).trans ?_
    refine (Q_getR (q := 104) zm_50 (Or.inl (by decide)) D50_39 zf_6_9 zs_6_0 zk_103.1 rfl).trans ?_
    refine (Q_iconst (v := 3) zm_50 (Or.inl (by decide)) D50_42 (by decide)).trans ?_
    refine (Q_aload_n zm_50 (Or.inl (by decide)) D50_43 rfl).trans ?_
    refine (Q_getR (q := (w1 + 1)) zm_50 (Or.inl (by decide)) D50_44 zf_6_24 zs_8_2 (zkw_0 hw1).1 (zrw_2 hw1)).trans ?_
    refine (Q_iload_n zm_50 (Or.inl (by decide)) D50_47 rfl).trans ?_
    refine (Q_iaload zm_50 (Or.inl (by decide)) D50_48 (zkw_1 hw1).1 (zkw_1 hw1).2).trans ?_
    refine zand_c (fun h1_ => ?_)
    refine (Q_i2l zm_50 (Or.inl (by decide)) D50_49).trans ?_
    refine ((Q_lastore zm_50 (Or.inl (by decide)) D50_50 zk_104.1 zk_104.2).trans (zdrop (zin_spec (by decide)))).trans ?_
    refine (Q_aload_n zm_50 (Or.inl (by decide)) D50_51 rfl).trans ?_
    refine (Q_getR (q := 104) zm_50 (Or.inl (by decide)) D50_52 zf_6_9 zs_6_0 zk_103.1 rfl).trans ?_
    refine (Q_iconst (v := 4) zm_50 (Or.inl (by decide)) D50_55 (by decide)).trans ?_
    refine (Q_iload zm_50 (Or.inl (by decide)) D50_56 rfl).trans ?_
    refine (Q_i2l zm_50 (Or.inl (by decide)) D50_58).trans ?_
    refine ((Q_lastore zm_50 (Or.inl (by decide)) D50_59 zk_104.1 zk_104.2).trans (zdrop (zin_spec (by decide)))).trans ?_
    refine (Q_aload_n zm_50 (Or.inl (by decide)) D50_60 rfl).trans ?_
    refine (Q_getR (q := 104) zm_50 (Or.inl (by decide)) D50_61 zf_6_9 zs_6_0 zk_103.1 rfl).trans ?_
    refine (Q_iconst (v := 5) zm_50 (Or.inl (by decide)) D50_64 (by decide)).trans ?_
    refine (Q_aload_n zm_50 (Or.inl (by decide)) D50_65 rfl).trans ?_
    refine (Q_getR (q := (w1 + 5)) zm_50 (Or.inl (by decide)) D50_66 zf_6_27 zs_8_6 (zkw_0 hw1).1 (zrw_6 hw1)).trans ?_
    refine (Q_iload_n zm_50 (Or.inl (by decide)) D50_69 rfl).trans ?_
    refine (Q_iaload zm_50 (Or.inl (by decide)) D50_70 (zkw_5 hw1).1 (zkw_5 hw1).2).trans ?_
    refine zand_c (fun h2_ => ?_)
    refine (Q_i2l zm_50 (Or.inl (by decide)) D50_71).trans ?_
    refine ((Q_lastore zm_50 (Or.inl (by decide)) D50_72 zk_104.1 zk_104.2).trans (zdrop (zin_spec (by decide)))).trans ?_
    refine (Q_aload_n zm_50 (Or.inl (by decide)) D50_73 rfl).trans ?_
    refine (Q_getR (q := 104) zm_50 (Or.inl (by decide)) D50_74 zf_6_9 zs_6_0 zk_103.1 rfl).trans ?_
    refine (Q_bipush (v := 6) zm_50 (Or.inl (by decide)) D50_77 (by decide)).trans ?_
    refine (Q_aload_n zm_50 (Or.inl (by decide)) D50_79 rfl).trans ?_
    refine (Q_getI zm_50 (Or.inl (by decide)) D50_80 zf_6_30 (Or.inl zs_8_0) (zkw_0 hw1).1).trans ?_
    refine (Q_i2l zm_50 (Or.inl (by decide)) D50_83).trans ?_
    refine ((Q_lastore zm_50 (Or.inl (by decide)) D50_84 zk_104.1 zk_104.2).trans (zdrop (zin_spec (by decide)))).trans ?_
    exact Q_return zm_50 (Or.inl (by decide)) D50_85 rfl
  · refine (Q_aload_n zm_50 (Or.inl (by decide)) D50_9 rfl).trans ?_
    refine (Q_getR (q := 104) zm_50 (Or.inl (by decide)) D50_10 zf_6_9 zs_6_0 zk_103.1 rfl).trans ?_
    refine (Q_iload zm_50 (Or.inl (by decide)) D50_13 rfl).trans ?_
    refine (Q_aload_n zm_50 (Or.inl (by decide)) D50_15 rfl).trans ?_
    refine (Q_getR (q := (w1 + 2)) zm_50 (Or.inl (by decide)) D50_16 zf_6_18 zs_8_3 (zkw_0 hw1).1 (zrw_3 hw1)).trans ?_
    refine (Q_iload_n zm_50 (Or.inl (by decide)) D50_19 rfl).trans ?_
    refine (Q_iconst (v := 3) zm_50 (Or.inl (by decide)) D50_20 (by decide)).trans ?_
    refine (Q_imul zm_50 (Or.inl (by decide)) D50_21).trans ?_
    refine (Q_iload zm_50 (Or.inl (by decide)) D50_22 rfl).trans ?_
    refine (Q_iadd zm_50 (Or.inl (by decide)) D50_24).trans ?_
    refine (Q_iaload zm_50 (Or.inl (by decide)) D50_25 (zkw_2 hw1).1 (zkw_2 hw1).2).trans ?_
    refine zand_c (fun h3_ => ?_)
    refine (Q_sipush (v := 1000) zm_50 (Or.inl (by decide)) D50_26 (by decide)).trans ?_
    refine (Q_idiv zm_50 (Or.inl (by decide)) D50_29 (by decide)).trans ?_
    refine (Q_i2l zm_50 (Or.inl (by decide)) D50_30).trans ?_
    refine (Q_lastore zm_50 (Or.inl (by decide)) D50_31 zk_104.1 zk_104.2).trans ?_
    refine zand_c (fun h4_ => ?_)
    refine (Q_iinc (v := 1) (ls' := [some (.ref 103), some (.ref w1), some (.int i2), some (.int i3), some (.int i4), some (.int (i5 + (1 : Int32)))]) zm_50 (Or.inl (by decide)) D50_32 rfl rfl (by decide) rfl).trans ?_
    refine (Q_goto (tgt := 3) zm_50 (Or.inl (by decide)) D50_35 (by decide)).trans ?_
    rfl

/-! HandsLet$Sums.work(LHandsLet$Plan;I)J -/
theorem D51_0 : decode prog_8_method_3_code 0 = .ok (.iconst 0, 1) := by decide +kernel
theorem D51_1 : decode prog_8_method_3_code 1 = .ok (.istore_n 3, 1) := by decide +kernel
theorem D51_2 : decode prog_8_method_3_code 2 = .ok (.aload_n 1, 1) := by decide +kernel
theorem D51_3 : decode prog_8_method_3_code 3 = .ok (.getfield 34, 3) := by decide +kernel
theorem D51_6 : decode prog_8_method_3_code 6 = .ok (.iload_n 2, 1) := by decide +kernel
theorem D51_7 : decode prog_8_method_3_code 7 = .ok (.iaload, 1) := by decide +kernel
theorem D51_8 : decode prog_8_method_3_code 8 = .ok (.istore 4, 2) := by decide +kernel
theorem D51_10 : decode prog_8_method_3_code 10 = .ok (.iload 4, 2) := by decide +kernel
theorem D51_12 : decode prog_8_method_3_code 12 = .ok (.aload_n 1, 1) := by decide +kernel
theorem D51_13 : decode prog_8_method_3_code 13 = .ok (.getfield 39, 3) := by decide +kernel
theorem D51_16 : decode prog_8_method_3_code 16 = .ok (.iload_n 2, 1) := by decide +kernel
theorem D51_17 : decode prog_8_method_3_code 17 = .ok (.iaload, 1) := by decide +kernel
theorem D51_18 : decode prog_8_method_3_code 18 = .ok (.if_icmp .ge 167, 3) := by decide +kernel
theorem D51_21 : decode prog_8_method_3_code 21 = .ok (.aload_n 1, 1) := by decide +kernel
theorem D51_22 : decode prog_8_method_3_code 22 = .ok (.getfield 42, 3) := by decide +kernel
theorem D51_25 : decode prog_8_method_3_code 25 = .ok (.iload 4, 2) := by decide +kernel
theorem D51_27 : decode prog_8_method_3_code 27 = .ok (.iaload, 1) := by decide +kernel
theorem D51_28 : decode prog_8_method_3_code 28 = .ok (.istore 5, 2) := by decide +kernel
theorem D51_30 : decode prog_8_method_3_code 30 = .ok (.iload 5, 2) := by decide +kernel
theorem D51_32 : decode prog_8_method_3_code 32 = .ok (.iconst 2, 1) := by decide +kernel
theorem D51_33 : decode prog_8_method_3_code 33 = .ok (.if_icmp .eq 10, 3) := by decide +kernel
theorem D51_36 : decode prog_8_method_3_code 36 = .ok (.iload 5, 2) := by decide +kernel
theorem D51_38 : decode prog_8_method_3_code 38 = .ok (.bipush 33, 2) := by decide +kernel
theorem D51_40 : decode prog_8_method_3_code 40 = .ok (.if_icmp .lt 42, 3) := by decide +kernel
theorem D51_43 : decode prog_8_method_3_code 43 = .ok (.aload_n 0, 1) := by decide +kernel
theorem D51_44 : decode prog_8_method_3_code 44 = .ok (.getfield 15, 3) := by decide +kernel
theorem D51_47 : decode prog_8_method_3_code 47 = .ok (.iload_n 3, 1) := by decide +kernel
theorem D51_48 : decode prog_8_method_3_code 48 = .ok (.iload 5, 2) := by decide +kernel
theorem D51_50 : decode prog_8_method_3_code 50 = .ok (.iconst 2, 1) := by decide +kernel
theorem D51_51 : decode prog_8_method_3_code 51 = .ok (.if_icmp .ne 14, 3) := by decide +kernel
theorem D51_54 : decode prog_8_method_3_code 54 = .ok (.aload_n 1, 1) := by decide +kernel
theorem D51_55 : decode prog_8_method_3_code 55 = .ok (.getfield 45, 3) := by decide +kernel
theorem D51_58 : decode prog_8_method_3_code 58 = .ok (.iload 4, 2) := by decide +kernel
theorem D51_60 : decode prog_8_method_3_code 60 = .ok (.iaload, 1) := by decide +kernel
theorem D51_61 : decode prog_8_method_3_code 61 = .ok (.i2l, 1) := by decide +kernel
theorem D51_62 : decode prog_8_method_3_code 62 = .ok (.goto 13, 3) := by decide +kernel
theorem D51_65 : decode prog_8_method_3_code 65 = .ok (.aload_n 0, 1) := by decide +kernel
theorem D51_66 : decode prog_8_method_3_code 66 = .ok (.getfield 9, 3) := by decide +kernel
theorem D51_69 : decode prog_8_method_3_code 69 = .ok (.iload 5, 2) := by decide +kernel
theorem D51_71 : decode prog_8_method_3_code 71 = .ok (.bipush 33, 2) := by decide +kernel
theorem D51_73 : decode prog_8_method_3_code 73 = .ok (.isub, 1) := by decide +kernel
theorem D51_74 : decode prog_8_method_3_code 74 = .ok (.laload, 1) := by decide +kernel
theorem D51_75 : decode prog_8_method_3_code 75 = .ok (.lastore, 1) := by decide +kernel
theorem D51_76 : decode prog_8_method_3_code 76 = .ok (.iinc 3 1, 3) := by decide +kernel
theorem D51_79 : decode prog_8_method_3_code 79 = .ok (.goto 100, 3) := by decide +kernel
theorem D51_82 : decode prog_8_method_3_code 82 = .ok (.iload 5, 2) := by decide +kernel
theorem D51_84 : decode prog_8_method_3_code 84 = .ok (.bipush 32, 2) := by decide +kernel
theorem D51_86 : decode prog_8_method_3_code 86 = .ok (.if_icmp .ne 39, 3) := by decide +kernel
theorem D51_89 : decode prog_8_method_3_code 89 = .ok (.iload_n 3, 1) := by decide +kernel
theorem D51_90 : decode prog_8_method_3_code 90 = .ok (.ifCond .le 35, 3) := by decide +kernel
theorem D51_93 : decode prog_8_method_3_code 93 = .ok (.aload_n 0, 1) := by decide +kernel
theorem D51_94 : decode prog_8_method_3_code 94 = .ok (.getfield 15, 3) := by decide +kernel
theorem D51_97 : decode prog_8_method_3_code 97 = .ok (.iload_n 3, 1) := by decide +kernel
theorem D51_98 : decode prog_8_method_3_code 98 = .ok (.iconst 1, 1) := by decide +kernel
theorem D51_99 : decode prog_8_method_3_code 99 = .ok (.isub, 1) := by decide +kernel
theorem D51_100 : decode prog_8_method_3_code 100 = .ok (.aload_n 0, 1) := by decide +kernel
theorem D51_101 : decode prog_8_method_3_code 101 = .ok (.getfield 15, 3) := by decide +kernel
theorem D51_104 : decode prog_8_method_3_code 104 = .ok (.iload_n 3, 1) := by decide +kernel
theorem D51_105 : decode prog_8_method_3_code 105 = .ok (.iconst 1, 1) := by decide +kernel
theorem D51_106 : decode prog_8_method_3_code 106 = .ok (.isub, 1) := by decide +kernel
theorem D51_107 : decode prog_8_method_3_code 107 = .ok (.laload, 1) := by decide +kernel
theorem D51_108 : decode prog_8_method_3_code 108 = .ok (.lconst 0, 1) := by decide +kernel
theorem D51_109 : decode prog_8_method_3_code 109 = .ok (.lcmp, 1) := by decide +kernel
theorem D51_110 : decode prog_8_method_3_code 110 = .ok (.ifCond .ne 7, 3) := by decide +kernel
theorem D51_113 : decode prog_8_method_3_code 113 = .ok (.iconst 1, 1) := by decide +kernel
theorem D51_114 : decode prog_8_method_3_code 114 = .ok (.goto 4, 3) := by decide +kernel
theorem D51_117 : decode prog_8_method_3_code 117 = .ok (.iconst 0, 1) := by decide +kernel
theorem D51_118 : decode prog_8_method_3_code 118 = .ok (.invokestatic 48, 3) := by decide +kernel
theorem D51_121 : decode prog_8_method_3_code 121 = .ok (.lastore, 1) := by decide +kernel
theorem D51_122 : decode prog_8_method_3_code 122 = .ok (.goto 57, 3) := by decide +kernel
theorem D51_125 : decode prog_8_method_3_code 125 = .ok (.iload_n 3, 1) := by decide +kernel
theorem D51_126 : decode prog_8_method_3_code 126 = .ok (.iconst 1, 1) := by decide +kernel
theorem D51_127 : decode prog_8_method_3_code 127 = .ok (.if_icmp .le 52, 3) := by decide +kernel
theorem D51_130 : decode prog_8_method_3_code 130 = .ok (.iinc 3 (-1), 3) := by decide +kernel
theorem D51_133 : decode prog_8_method_3_code 133 = .ok (.aload_n 0, 1) := by decide +kernel
theorem D51_134 : decode prog_8_method_3_code 134 = .ok (.getfield 15, 3) := by decide +kernel
theorem D51_137 : decode prog_8_method_3_code 137 = .ok (.iload_n 3, 1) := by decide +kernel
theorem D51_138 : decode prog_8_method_3_code 138 = .ok (.iconst 1, 1) := by decide +kernel
theorem D51_139 : decode prog_8_method_3_code 139 = .ok (.isub, 1) := by decide +kernel
theorem D51_140 : decode prog_8_method_3_code 140 = .ok (.iload 5, 2) := by decide +kernel
theorem D51_142 : decode prog_8_method_3_code 142 = .ok (.aload_n 0, 1) := by decide +kernel
theorem D51_143 : decode prog_8_method_3_code 143 = .ok (.getfield 15, 3) := by decide +kernel
theorem D51_146 : decode prog_8_method_3_code 146 = .ok (.iload_n 3, 1) := by decide +kernel
theorem D51_147 : decode prog_8_method_3_code 147 = .ok (.iconst 1, 1) := by decide +kernel
theorem D51_148 : decode prog_8_method_3_code 148 = .ok (.isub, 1) := by decide +kernel
theorem D51_149 : decode prog_8_method_3_code 149 = .ok (.laload, 1) := by decide +kernel
theorem D51_150 : decode prog_8_method_3_code 150 = .ok (.aload_n 0, 1) := by decide +kernel
theorem D51_151 : decode prog_8_method_3_code 151 = .ok (.getfield 15, 3) := by decide +kernel
theorem D51_154 : decode prog_8_method_3_code 154 = .ok (.iload_n 3, 1) := by decide +kernel
theorem D51_155 : decode prog_8_method_3_code 155 = .ok (.laload, 1) := by decide +kernel
theorem D51_156 : decode prog_8_method_3_code 156 = .ok (.invokestatic 52, 3) := by decide +kernel
theorem D51_159 : decode prog_8_method_3_code 159 = .ok (.lastore, 1) := by decide +kernel
theorem D51_160 : decode prog_8_method_3_code 160 = .ok (.aload_n 0, 1) := by decide +kernel
theorem D51_161 : decode prog_8_method_3_code 161 = .ok (.getfield 15, 3) := by decide +kernel
theorem D51_164 : decode prog_8_method_3_code 164 = .ok (.iload_n 3, 1) := by decide +kernel
theorem D51_165 : decode prog_8_method_3_code 165 = .ok (.iconst 1, 1) := by decide +kernel
theorem D51_166 : decode prog_8_method_3_code 166 = .ok (.isub, 1) := by decide +kernel
theorem D51_167 : decode prog_8_method_3_code 167 = .ok (.laload, 1) := by decide +kernel
theorem D51_168 : decode prog_8_method_3_code 168 = .ok (.ldc2_w 56, 3) := by decide +kernel
theorem D51_171 : decode prog_8_method_3_code 171 = .ok (.lcmp, 1) := by decide +kernel
theorem D51_172 : decode prog_8_method_3_code 172 = .ok (.ifCond .ne 7, 3) := by decide +kernel
theorem D51_175 : decode prog_8_method_3_code 175 = .ok (.ldc2_w 56, 3) := by decide +kernel
theorem D51_178 : decode prog_8_method_3_code 178 = .ok (.lreturn, 1) := by decide +kernel
theorem D51_179 : decode prog_8_method_3_code 179 = .ok (.iinc 4 1, 3) := by decide +kernel
theorem D51_182 : decode prog_8_method_3_code 182 = .ok (.goto (-172), 3) := by decide +kernel
theorem D51_185 : decode prog_8_method_3_code 185 = .ok (.iload_n 3, 1) := by decide +kernel
theorem D51_186 : decode prog_8_method_3_code 186 = .ok (.ifCond .le 12, 3) := by decide +kernel
theorem D51_189 : decode prog_8_method_3_code 189 = .ok (.aload_n 0, 1) := by decide +kernel
theorem D51_190 : decode prog_8_method_3_code 190 = .ok (.getfield 15, 3) := by decide +kernel
theorem D51_193 : decode prog_8_method_3_code 193 = .ok (.iconst 0, 1) := by decide +kernel
theorem D51_194 : decode prog_8_method_3_code 194 = .ok (.laload, 1) := by decide +kernel
theorem D51_195 : decode prog_8_method_3_code 195 = .ok (.goto 6, 3) := by decide +kernel
theorem D51_198 : decode prog_8_method_3_code 198 = .ok (.ldc2_w 56, 3) := by decide +kernel
theorem D51_201 : decode prog_8_method_3_code 201 = .ok (.lreturn, 1) := by decide +kernel

theorem b51_0 {d : Nat} {p1 : Nat} {i2 : Int32} {ia : Nat → Nat → Int32} {la : Nat → Nat → Int64} {pl dr : Nat} {cp : Option Nat} {cw : Option Nat} {rp : Option Nat} {K : Option Value → zHP → Prop} (hp1 : zIsP p1) : zWP d 51 0 [some (.ref 103), some (.ref p1), some (.int i2), none, none, none] [] (ia, la, zRA pl dr cp cw rp) K = (vp_in i2 3 ∧ zWP d 51 10 [some (.ref 103), some (.ref p1), some (.int i2), some (.int (0 : Int32)), some (.int (ia (p1 + 29) (i2).toNatClampNeg)), none] [] (ia, la, zRA pl dr cp cw rp) K) := by
  refine (Q_iconst (v := 0) zm_51 (Or.inl (by decide)) D51_0 (by decide)).trans ?_
  refine (Q_istore_n (ls' := [some (.ref 103), some (.ref p1), some (.int i2), some (.int (0 : Int32)), none, none]) zm_51 (Or.inl (by decide)) D51_1 rfl (Nat.le_of_ble_eq_true rfl) rfl).trans ?_
  refine (Q_aload_n zm_51 (Or.inl (by decide)) D51_2 rfl).trans ?_
  refine (Q_getR (q := (p1 + 29)) zm_51 (Or.inl (by decide)) D51_3 zf_6_34 zs_3_11 (zkp_0 hp1).1 (zrp_11 hp1)).trans ?_
  refine (Q_iload_n zm_51 (Or.inl (by decide)) D51_6 rfl).trans ?_
  refine (Q_iaload zm_51 (Or.inl (by decide)) D51_7 (zkp_29 hp1).1 (zkp_29 hp1).2).trans ?_
  refine zand_c (fun h0_ => ?_)
  refine (Q_istore (ls' := [some (.ref 103), some (.ref p1), some (.int i2), some (.int (0 : Int32)), some (.int (ia (p1 + 29) (i2).toNatClampNeg)), none]) zm_51 (Or.inl (by decide)) D51_8 rfl (Nat.le_of_ble_eq_true rfl) rfl).trans ?_
  rfl

theorem b51_10 {d : Nat} {p1 : Nat} {i2 : Int32} {i3 : Int32} {i4 : Int32} {a5 : Option Value} {ia : Nat → Nat → Int32} {la : Nat → Nat → Int64} {pl dr : Nat} {cp : Option Nat} {cw : Option Nat} {rp : Option Nat} {K : Option Value → zHP → Prop} (hp1 : zIsP p1) : zWP (d + 1) 51 10 [some (.ref 103), some (.ref p1), some (.int i2), some (.int i3), some (.int i4), a5] [] (ia, la, zRA pl dr cp cw rp) K = (vp_in i2 3 ∧ (if (ia (p1 + 30) (i2).toNatClampNeg) ≤ i4 then (if i3 ≤ 0 then K (some (.long (-9223372036854775808 : Int64))) (ia, la, zRA pl dr cp cw rp) else K (some (.long (la 105 0))) (ia, la, zRA pl dr cp cw rp)) else (vp_in i4 64 ∧ (if (ia (p1 + 31) (i4).toNatClampNeg) = (2 : Int32) then zWP (d + 1) 51 43 [some (.ref 103), some (.ref p1), some (.int i2), some (.int i3), some (.int i4), some (.int (ia (p1 + 31) (i4).toNatClampNeg))] [] (ia, la, zRA pl dr cp cw rp) K else (if (ia (p1 + 31) (i4).toNatClampNeg) < (33 : Int32) then (if ¬ (ia (p1 + 31) (i4).toNatClampNeg) = (32 : Int32) then zWP (d + 1) 51 125 [some (.ref 103), some (.ref p1), some (.int i2), some (.int i3), some (.int i4), some (.int (ia (p1 + 31) (i4).toNatClampNeg))] [] (ia, la, zRA pl dr cp cw rp) K else (if i3 ≤ 0 then zWP (d + 1) 51 125 [some (.ref 103), some (.ref p1), some (.int i2), some (.int i3), some (.int i4), some (.int (ia (p1 + 31) (i4).toNatClampNeg))] [] (ia, la, zRA pl dr cp cw rp) K else (vp_in (i3 - (1 : Int32)) 64 ∧ (if ¬ (lg_cmp (la 105 ((i3 - (1 : Int32))).toNatClampNeg) (0 : Int64)) = 0 then zWM d 52 [.int (0 : Int32)] (ia, la, zRA pl dr cp cw rp) (zK (d + 1) 51 121 [some (.ref 103), some (.ref p1), some (.int i2), some (.int i3), some (.int i4), some (.int (ia (p1 + 31) (i4).toNatClampNeg))] [.int (i3 - (1 : Int32)), .ref 105] K) else zWM d 52 [.int (1 : Int32)] (ia, la, zRA pl dr cp cw rp) (zK (d + 1) 51 121 [some (.ref 103), some (.ref p1), some (.int i2), some (.int i3), some (.int i4), some (.int (ia (p1 + 31) (i4).toNatClampNeg))] [.int (i3 - (1 : Int32)), .ref 105] K))))) else zWP (d + 1) 51 43 [some (.ref 103), some (.ref p1), some (.int i2), some (.int i3), some (.int i4), some (.int (ia (p1 + 31) (i4).toNatClampNeg))] [] (ia, la, zRA pl dr cp cw rp) K))))) := by
  refine (Q_iload zm_51 (Or.inl (by decide)) D51_10 rfl).trans ?_
  refine (Q_aload_n zm_51 (Or.inl (by decide)) D51_12 rfl).trans ?_
  refine (Q_getR (q := (p1 + 30)) zm_51 (Or.inl (by decide)) D51_13 zf_6_39 zs_3_12 (zkp_0 hp1).1 (zrp_12 hp1)).trans ?_
  refine (Q_iload_n zm_51 (Or.inl (by decide)) D51_16 rfl).trans ?_
  refine (Q_iaload zm_51 (Or.inl (by decide)) D51_17 (zkp_30 hp1).1 (zkp_30 hp1).2).trans ?_
  refine zand_c (fun h0_ => ?_)
  refine (Q_ic_ge (tgt := 185) zm_51 (Or.inl (by decide)) D51_18 (by decide)).trans ?_
  refine zif_c (fun h1_ => ?_) (fun h1_ => ?_)
  · refine (Q_iload_n zm_51 (Or.inl (by decide)) D51_185 rfl).trans ?_
    refine (Q_if_le (tgt := 198) zm_51 (Or.inl (by decide)) D51_186 (by decide)).trans ?_
    refine zif_c (fun h2_ => ?_) (fun h2_ => ?_)
    · refine (Q_ldc2_w (v := -9223372036854775808) zm_51 (Or.inl (by decide)) D51_198 (by decide +kernel)).trans ?_
      exact Q_lreturn zm_51 (Or.inl (by decide)) D51_201 rfl
    · refine (Q_aload_n zm_51 (Or.inl (by decide)) D51_189 rfl).trans ?_
      refine (Q_getR (q := 105) zm_51 (Or.inl (by decide)) D51_190 zf_6_15 zs_6_1 zk_103.1 rfl).trans ?_
      refine (Q_iconst (v := 0) zm_51 (Or.inl (by decide)) D51_193 (by decide)).trans ?_
      refine ((Q_laload zm_51 (Or.inl (by decide)) D51_194 zk_105.1 zk_105.2).trans (zdrop (zin_spec (by decide)))).trans ?_
      refine (Q_goto (tgt := 201) zm_51 (Or.inl (by decide)) D51_195 (by decide)).trans ?_
      exact Q_lreturn zm_51 (Or.inl (by decide)) D51_201 rfl
  · refine (Q_aload_n zm_51 (Or.inl (by decide)) D51_21 rfl).trans ?_
    refine (Q_getR (q := (p1 + 31)) zm_51 (Or.inl (by decide)) D51_22 zf_6_42 zs_3_13 (zkp_0 hp1).1 (zrp_13 hp1)).trans ?_
    refine (Q_iload zm_51 (Or.inl (by decide)) D51_25 rfl).trans ?_
    refine (Q_iaload zm_51 (Or.inl (by decide)) D51_27 (zkp_31 hp1).1 (zkp_31 hp1).2).trans ?_
    refine zand_c (fun h3_ => ?_)
    refine (Q_istore (ls' := [some (.ref 103), some (.ref p1), some (.int i2), some (.int i3), some (.int i4), some (.int (ia (p1 + 31) (i4).toNatClampNeg))]) zm_51 (Or.inl (by decide)) D51_28 rfl (Nat.le_of_ble_eq_true rfl) rfl).trans ?_
    refine (Q_iload zm_51 (Or.inl (by decide)) D51_30 rfl).trans ?_
    refine (Q_iconst (v := 2) zm_51 (Or.inl (by decide)) D51_32 (by decide)).trans ?_
    refine (Q_ic_eq (tgt := 43) zm_51 (Or.inl (by decide)) D51_33 (by decide)).trans ?_
    refine zif_c (fun h4_ => ?_) (fun h4_ => ?_)
    · rfl
    · refine (Q_iload zm_51 (Or.inl (by decide)) D51_36 rfl).trans ?_
      refine (Q_bipush (v := 33) zm_51 (Or.inl (by decide)) D51_38 (by decide)).trans ?_
      refine (Q_ic_lt (tgt := 82) zm_51 (Or.inl (by decide)) D51_40 (by decide)).trans ?_
      refine zif_c (fun h5_ => ?_) (fun h5_ => ?_)
      · refine (Q_iload zm_51 (Or.inl (by decide)) D51_82 rfl).trans ?_
        refine (Q_bipush (v := 32) zm_51 (Or.inl (by decide)) D51_84 (by decide)).trans ?_
        refine (Q_ic_ne (tgt := 125) zm_51 (Or.inl (by decide)) D51_86 (by decide)).trans ?_
        refine zif_c (fun h6_ => ?_) (fun h6_ => ?_)
        · rfl
        · refine (Q_iload_n zm_51 (Or.inl (by decide)) D51_89 rfl).trans ?_
          refine (Q_if_le (tgt := 125) zm_51 (Or.inl (by decide)) D51_90 (by decide)).trans ?_
          refine zif_c (fun h7_ => ?_) (fun h7_ => ?_)
          · rfl
          · refine (Q_aload_n zm_51 (Or.inl (by decide)) D51_93 rfl).trans ?_
            refine (Q_getR (q := 105) zm_51 (Or.inl (by decide)) D51_94 zf_6_15 zs_6_1 zk_103.1 rfl).trans ?_
            refine (Q_iload_n zm_51 (Or.inl (by decide)) D51_97 rfl).trans ?_
            refine (Q_iconst (v := 1) zm_51 (Or.inl (by decide)) D51_98 (by decide)).trans ?_
            refine (Q_isub zm_51 (Or.inl (by decide)) D51_99).trans ?_
            refine (Q_aload_n zm_51 (Or.inl (by decide)) D51_100 rfl).trans ?_
            refine (Q_getR (q := 105) zm_51 (Or.inl (by decide)) D51_101 zf_6_15 zs_6_1 zk_103.1 rfl).trans ?_
            refine (Q_iload_n zm_51 (Or.inl (by decide)) D51_104 rfl).trans ?_
            refine (Q_iconst (v := 1) zm_51 (Or.inl (by decide)) D51_105 (by decide)).trans ?_
            refine (Q_isub zm_51 (Or.inl (by decide)) D51_106).trans ?_
            refine (Q_laload zm_51 (Or.inl (by decide)) D51_107 zk_105.1 zk_105.2).trans ?_
            refine zand_c (fun h8_ => ?_)
            refine (Q_lconst (v := 0) zm_51 (Or.inl (by decide)) D51_108 (by decide)).trans ?_
            refine (Q_lcmp zm_51 (Or.inl (by decide)) D51_109).trans ?_
            refine (Q_if_ne (tgt := 117) zm_51 (Or.inl (by decide)) D51_110 (by decide)).trans ?_
            refine zif_c (fun h9_ => ?_) (fun h9_ => ?_)
            · refine (Q_iconst (v := 0) zm_51 (Or.inl (by decide)) D51_117 (by decide)).trans ?_
              exact Q_calls (as := [.int (0 : Int32)]) (rest := [.int (i3 - (1 : Int32)), .ref 105]) zm_51 (Or.inl (by decide)) D51_118 zc_6_48 rfl (by decide) (by simp [zcat, Value.category]) zm_52 rfl
            · refine (Q_iconst (v := 1) zm_51 (Or.inl (by decide)) D51_113 (by decide)).trans ?_
              refine (Q_goto (tgt := 118) zm_51 (Or.inl (by decide)) D51_114 (by decide)).trans ?_
              exact Q_calls (as := [.int (1 : Int32)]) (rest := [.int (i3 - (1 : Int32)), .ref 105]) zm_51 (Or.inl (by decide)) D51_118 zc_6_48 rfl (by decide) (by simp [zcat, Value.category]) zm_52 rfl
      · rfl

theorem b51_43 {d : Nat} {p1 : Nat} {i2 : Int32} {i3 : Int32} {i4 : Int32} {i5 : Int32} {ia : Nat → Nat → Int32} {la : Nat → Nat → Int64} {pl dr : Nat} {cp : Option Nat} {cw : Option Nat} {rp : Option Nat} {K : Option Value → zHP → Prop} (hp1 : zIsP p1) : zWP d 51 43 [some (.ref 103), some (.ref p1), some (.int i2), some (.int i3), some (.int i4), some (.int i5)] [] (ia, la, zRA pl dr cp cw rp) K = (if ¬ i5 = (2 : Int32) then (vp_in (i5 - (33 : Int32)) 7 ∧ (vp_in i3 64 ∧ zWP d 51 10 [some (.ref 103), some (.ref p1), some (.int i2), some (.int (i3 + (1 : Int32))), some (.int (i4 + (1 : Int32))), some (.int i5)] [] (ia, (zu la 105 (i3).toNatClampNeg (la 104 ((i5 - (33 : Int32))).toNatClampNeg)), zRA pl dr cp cw rp) K)) else (vp_in i4 64 ∧ (vp_in i3 64 ∧ zWP d 51 10 [some (.ref 103), some (.ref p1), some (.int i2), some (.int (i3 + (1 : Int32))), some (.int (i4 + (1 : Int32))), some (.int i5)] [] (ia, (zu la 105 (i3).toNatClampNeg ((ia (p1 + 32) (i4).toNatClampNeg)).toInt64), zRA pl dr cp cw rp) K))) := by
  refine (Q_aload_n zm_51 (Or.inl (by decide)) D51_43 rfl).trans ?_
  refine (Q_getR (q := 105) zm_51 (Or.inl (by decide)) D51_44 zf_6_15 zs_6_1 zk_103.1 rfl).trans ?_
  refine (Q_iload_n zm_51 (Or.inl (by decide)) D51_47 rfl).trans ?_
  refine (Q_iload zm_51 (Or.inl (by decide)) D51_48 rfl).trans ?_
  refine (Q_iconst (v := 2) zm_51 (Or.inl (by decide)) D51_50 (by decide)).trans ?_
  refine (Q_ic_ne (tgt := 65) zm_51 (Or.inl (by decide)) D51_51 (by decide)).trans ?_
  refine zif_c (fun h0_ => ?_) (fun h0_ => ?_)
  · refine (Q_aload_n zm_51 (Or.inl (by decide)) D51_65 rfl).trans ?_
    refine (Q_getR (q := 104) zm_51 (Or.inl (by decide)) D51_66 zf_6_9 zs_6_0 zk_103.1 rfl).trans ?_
    refine (Q_iload zm_51 (Or.inl (by decide)) D51_69 rfl).trans ?_
    refine (Q_bipush (v := 33) zm_51 (Or.inl (by decide)) D51_71 (by decide)).trans ?_
    refine (Q_isub zm_51 (Or.inl (by decide)) D51_73).trans ?_
    refine (Q_laload zm_51 (Or.inl (by decide)) D51_74 zk_104.1 zk_104.2).trans ?_
    refine zand_c (fun h1_ => ?_)
    refine (Q_lastore zm_51 (Or.inl (by decide)) D51_75 zk_105.1 zk_105.2).trans ?_
    refine zand_c (fun h2_ => ?_)
    refine (Q_iinc (v := 1) (ls' := [some (.ref 103), some (.ref p1), some (.int i2), some (.int (i3 + (1 : Int32))), some (.int i4), some (.int i5)]) zm_51 (Or.inl (by decide)) D51_76 rfl rfl (by decide) rfl).trans ?_
    refine (Q_goto (tgt := 179) zm_51 (Or.inl (by decide)) D51_79 (by decide)).trans ?_
    refine (Q_iinc (v := 1) (ls' := [some (.ref 103), some (.ref p1), some (.int i2), some (.int (i3 + (1 : Int32))), some (.int (i4 + (1 : Int32))), some (.int i5)]) zm_51 (Or.inl (by decide)) D51_179 rfl rfl (by decide) rfl).trans ?_
    refine (Q_goto (tgt := 10) zm_51 (Or.inl (by decide)) D51_182 (by decide)).trans ?_
    rfl
  · refine (Q_aload_n zm_51 (Or.inl (by decide)) D51_54 rfl).trans ?_
    refine (Q_getR (q := (p1 + 32)) zm_51 (Or.inl (by decide)) D51_55 zf_6_45 zs_3_14 (zkp_0 hp1).1 (zrp_14 hp1)).trans ?_
    refine (Q_iload zm_51 (Or.inl (by decide)) D51_58 rfl).trans ?_
    refine (Q_iaload zm_51 (Or.inl (by decide)) D51_60 (zkp_32 hp1).1 (zkp_32 hp1).2).trans ?_
    refine zand_c (fun h3_ => ?_)
    refine (Q_i2l zm_51 (Or.inl (by decide)) D51_61).trans ?_
    refine (Q_goto (tgt := 75) zm_51 (Or.inl (by decide)) D51_62 (by decide)).trans ?_
    refine (Q_lastore zm_51 (Or.inl (by decide)) D51_75 zk_105.1 zk_105.2).trans ?_
    refine zand_c (fun h4_ => ?_)
    refine (Q_iinc (v := 1) (ls' := [some (.ref 103), some (.ref p1), some (.int i2), some (.int (i3 + (1 : Int32))), some (.int i4), some (.int i5)]) zm_51 (Or.inl (by decide)) D51_76 rfl rfl (by decide) rfl).trans ?_
    refine (Q_goto (tgt := 179) zm_51 (Or.inl (by decide)) D51_79 (by decide)).trans ?_
    refine (Q_iinc (v := 1) (ls' := [some (.ref 103), some (.ref p1), some (.int i2), some (.int (i3 + (1 : Int32))), some (.int (i4 + (1 : Int32))), some (.int i5)]) zm_51 (Or.inl (by decide)) D51_179 rfl rfl (by decide) rfl).trans ?_
    refine (Q_goto (tgt := 10) zm_51 (Or.inl (by decide)) D51_182 (by decide)).trans ?_
    rfl

theorem b51_125 {d : Nat} {p1 : Nat} {i2 : Int32} {i3 : Int32} {i4 : Int32} {i5 : Int32} {ia : Nat → Nat → Int32} {la : Nat → Nat → Int64} {pl dr : Nat} {cp : Option Nat} {cw : Option Nat} {rp : Option Nat} {K : Option Value → zHP → Prop} (hp1 : zIsP p1) : zWP (d + 1) 51 125 [some (.ref 103), some (.ref p1), some (.int i2), some (.int i3), some (.int i4), some (.int i5)] [] (ia, la, zRA pl dr cp cw rp) K = (if i3 ≤ (1 : Int32) then zWP (d + 1) 51 10 [some (.ref 103), some (.ref p1), some (.int i2), some (.int i3), some (.int (i4 + (1 : Int32))), some (.int i5)] [] (ia, la, zRA pl dr cp cw rp) K else (vp_in ((i3 + (-1 : Int32)) - (1 : Int32)) 64 ∧ (vp_in (i3 + (-1 : Int32)) 64 ∧ zWM d 53 [.int i5, .long (la 105 (((i3 + (-1 : Int32)) - (1 : Int32))).toNatClampNeg), .long (la 105 ((i3 + (-1 : Int32))).toNatClampNeg)] (ia, la, zRA pl dr cp cw rp) (zK (d + 1) 51 159 [some (.ref 103), some (.ref p1), some (.int i2), some (.int (i3 + (-1 : Int32))), some (.int i4), some (.int i5)] [.int ((i3 + (-1 : Int32)) - (1 : Int32)), .ref 105] K)))) := by
  refine (Q_iload_n zm_51 (Or.inl (by decide)) D51_125 rfl).trans ?_
  refine (Q_iconst (v := 1) zm_51 (Or.inl (by decide)) D51_126 (by decide)).trans ?_
  refine (Q_ic_le (tgt := 179) zm_51 (Or.inl (by decide)) D51_127 (by decide)).trans ?_
  refine zif_c (fun h0_ => ?_) (fun h0_ => ?_)
  · refine (Q_iinc (v := 1) (ls' := [some (.ref 103), some (.ref p1), some (.int i2), some (.int i3), some (.int (i4 + (1 : Int32))), some (.int i5)]) zm_51 (Or.inl (by decide)) D51_179 rfl rfl (by decide) rfl).trans ?_
    refine (Q_goto (tgt := 10) zm_51 (Or.inl (by decide)) D51_182 (by decide)).trans ?_
    rfl
  · refine (Q_iinc (v := -1) (ls' := [some (.ref 103), some (.ref p1), some (.int i2), some (.int (i3 + (-1 : Int32))), some (.int i4), some (.int i5)]) zm_51 (Or.inl (by decide)) D51_130 rfl rfl (by decide) rfl).trans ?_
    refine (Q_aload_n zm_51 (Or.inl (by decide)) D51_133 rfl).trans ?_
    refine (Q_getR (q := 105) zm_51 (Or.inl (by decide)) D51_134 zf_6_15 zs_6_1 zk_103.1 rfl).trans ?_
    refine (Q_iload_n zm_51 (Or.inl (by decide)) D51_137 rfl).trans ?_
    refine (Q_iconst (v := 1) zm_51 (Or.inl (by decide)) D51_138 (by decide)).trans ?_
    refine (Q_isub zm_51 (Or.inl (by decide)) D51_139).trans ?_
    refine (Q_iload zm_51 (Or.inl (by decide)) D51_140 rfl).trans ?_
    refine (Q_aload_n zm_51 (Or.inl (by decide)) D51_142 rfl).trans ?_
    refine (Q_getR (q := 105) zm_51 (Or.inl (by decide)) D51_143 zf_6_15 zs_6_1 zk_103.1 rfl).trans ?_
    refine (Q_iload_n zm_51 (Or.inl (by decide)) D51_146 rfl).trans ?_
    refine (Q_iconst (v := 1) zm_51 (Or.inl (by decide)) D51_147 (by decide)).trans ?_
    refine (Q_isub zm_51 (Or.inl (by decide)) D51_148).trans ?_
    refine (Q_laload zm_51 (Or.inl (by decide)) D51_149 zk_105.1 zk_105.2).trans ?_
    refine zand_c (fun h1_ => ?_)
    refine (Q_aload_n zm_51 (Or.inl (by decide)) D51_150 rfl).trans ?_
    refine (Q_getR (q := 105) zm_51 (Or.inl (by decide)) D51_151 zf_6_15 zs_6_1 zk_103.1 rfl).trans ?_
    refine (Q_iload_n zm_51 (Or.inl (by decide)) D51_154 rfl).trans ?_
    refine (Q_laload zm_51 (Or.inl (by decide)) D51_155 zk_105.1 zk_105.2).trans ?_
    refine zand_c (fun h2_ => ?_)
    exact Q_calls (as := [.int i5, .long (la 105 (((i3 + (-1 : Int32)) - (1 : Int32))).toNatClampNeg), .long (la 105 ((i3 + (-1 : Int32))).toNatClampNeg)]) (rest := [.int ((i3 + (-1 : Int32)) - (1 : Int32)), .ref 105]) zm_51 (Or.inl (by decide)) D51_156 zc_6_52 rfl (by decide) (by simp [zcat, Value.category]) zm_53 rfl

theorem b51_121 {d : Nat} {p1 : Nat} {i2 : Int32} {i3 : Int32} {i4 : Int32} {i5 : Int32} {s1 : Int32} {t2 : Int64} {ia : Nat → Nat → Int32} {la : Nat → Nat → Int64} {pl dr : Nat} {cp : Option Nat} {cw : Option Nat} {rp : Option Nat} {K : Option Value → zHP → Prop} (hp1 : zIsP p1) : zWP d 51 121 [some (.ref 103), some (.ref p1), some (.int i2), some (.int i3), some (.int i4), some (.int i5)] [.long t2, .int s1, .ref 105] (ia, la, zRA pl dr cp cw rp) K = (vp_in s1 64 ∧ zWP d 51 10 [some (.ref 103), some (.ref p1), some (.int i2), some (.int i3), some (.int (i4 + (1 : Int32))), some (.int i5)] [] (ia, (zu la 105 (s1).toNatClampNeg t2), zRA pl dr cp cw rp) K) := by
  refine (Q_lastore zm_51 (Or.inl (by decide)) D51_121 zk_105.1 zk_105.2).trans ?_
  refine zand_c (fun h0_ => ?_)
  refine (Q_goto (tgt := 179) zm_51 (Or.inl (by decide)) D51_122 (by decide)).trans ?_
  refine (Q_iinc (v := 1) (ls' := [some (.ref 103), some (.ref p1), some (.int i2), some (.int i3), some (.int (i4 + (1 : Int32))), some (.int i5)]) zm_51 (Or.inl (by decide)) D51_179 rfl rfl (by decide) rfl).trans ?_
  refine (Q_goto (tgt := 10) zm_51 (Or.inl (by decide)) D51_182 (by decide)).trans ?_
  rfl

theorem b51_159 {d : Nat} {p1 : Nat} {i2 : Int32} {i3 : Int32} {i4 : Int32} {i5 : Int32} {s1 : Int32} {t2 : Int64} {ia : Nat → Nat → Int32} {la : Nat → Nat → Int64} {pl dr : Nat} {cp : Option Nat} {cw : Option Nat} {rp : Option Nat} {K : Option Value → zHP → Prop} (hp1 : zIsP p1) : zWP d 51 159 [some (.ref 103), some (.ref p1), some (.int i2), some (.int i3), some (.int i4), some (.int i5)] [.long t2, .int s1, .ref 105] (ia, la, zRA pl dr cp cw rp) K = (vp_in s1 64 ∧ (vp_in (i3 - (1 : Int32)) 64 ∧ (if ¬ (lg_cmp ((zu la 105 (s1).toNatClampNeg t2) 105 ((i3 - (1 : Int32))).toNatClampNeg) (-9223372036854775808 : Int64)) = 0 then zWP d 51 10 [some (.ref 103), some (.ref p1), some (.int i2), some (.int i3), some (.int (i4 + (1 : Int32))), some (.int i5)] [] (ia, (zu la 105 (s1).toNatClampNeg t2), zRA pl dr cp cw rp) K else K (some (.long (-9223372036854775808 : Int64))) (ia, (zu la 105 (s1).toNatClampNeg t2), zRA pl dr cp cw rp)))) := by
  refine (Q_lastore zm_51 (Or.inl (by decide)) D51_159 zk_105.1 zk_105.2).trans ?_
  refine zand_c (fun h0_ => ?_)
  refine (Q_aload_n zm_51 (Or.inl (by decide)) D51_160 rfl).trans ?_
  refine (Q_getR (q := 105) zm_51 (Or.inl (by decide)) D51_161 zf_6_15 zs_6_1 zk_103.1 rfl).trans ?_
  refine (Q_iload_n zm_51 (Or.inl (by decide)) D51_164 rfl).trans ?_
  refine (Q_iconst (v := 1) zm_51 (Or.inl (by decide)) D51_165 (by decide)).trans ?_
  refine (Q_isub zm_51 (Or.inl (by decide)) D51_166).trans ?_
  refine (Q_laload zm_51 (Or.inl (by decide)) D51_167 zk_105.1 zk_105.2).trans ?_
  refine zand_c (fun h1_ => ?_)
  refine (Q_ldc2_w (v := -9223372036854775808) zm_51 (Or.inl (by decide)) D51_168 (by decide +kernel)).trans ?_
  refine (Q_lcmp zm_51 (Or.inl (by decide)) D51_171).trans ?_
  refine (Q_if_ne (tgt := 179) zm_51 (Or.inl (by decide)) D51_172 (by decide)).trans ?_
  refine zif_c (fun h2_ => ?_) (fun h2_ => ?_)
  · refine (Q_iinc (v := 1) (ls' := [some (.ref 103), some (.ref p1), some (.int i2), some (.int i3), some (.int (i4 + (1 : Int32))), some (.int i5)]) zm_51 (Or.inl (by decide)) D51_179 rfl rfl (by decide) rfl).trans ?_
    refine (Q_goto (tgt := 10) zm_51 (Or.inl (by decide)) D51_182 (by decide)).trans ?_
    rfl
  · refine (Q_ldc2_w (v := -9223372036854775808) zm_51 (Or.inl (by decide)) D51_175 (by decide +kernel)).trans ?_
    exact Q_lreturn zm_51 (Or.inl (by decide)) D51_178 rfl

/-! HandsLet$Sums.bit(Z)J -/
theorem D52_0 : decode prog_8_method_4_code 0 = .ok (.iload_n 0, 1) := by decide +kernel
theorem D52_1 : decode prog_8_method_4_code 1 = .ok (.ifCond .eq 7, 3) := by decide +kernel
theorem D52_4 : decode prog_8_method_4_code 4 = .ok (.lconst 1, 1) := by decide +kernel
theorem D52_5 : decode prog_8_method_4_code 5 = .ok (.goto 4, 3) := by decide +kernel
theorem D52_8 : decode prog_8_method_4_code 8 = .ok (.lconst 0, 1) := by decide +kernel
theorem D52_9 : decode prog_8_method_4_code 9 = .ok (.lreturn, 1) := by decide +kernel

theorem b52_0 {d : Nat} {i0 : Int32} {ia : Nat → Nat → Int32} {la : Nat → Nat → Int64} {pl dr : Nat} {cp : Option Nat} {cw : Option Nat} {rp : Option Nat} {K : Option Value → zHP → Prop}  : zWP d 52 0 [some (.int i0)] [] (ia, la, zRA pl dr cp cw rp) K = (if i0 = 0 then K (some (.long (0 : Int64))) (ia, la, zRA pl dr cp cw rp) else K (some (.long (1 : Int64))) (ia, la, zRA pl dr cp cw rp)) := by
  refine (Q_iload_n zm_52 (Or.inl (by decide)) D52_0 rfl).trans ?_
  refine (Q_if_eq (tgt := 8) zm_52 (Or.inl (by decide)) D52_1 (by decide)).trans ?_
  refine zif_c (fun h0_ => ?_) (fun h0_ => ?_)
  · refine (Q_lconst (v := 0) zm_52 (Or.inl (by decide)) D52_8 (by decide)).trans ?_
    exact Q_lreturn zm_52 (Or.inl (by decide)) D52_9 rfl
  · refine (Q_lconst (v := 1) zm_52 (Or.inl (by decide)) D52_4 (by decide)).trans ?_
    refine (Q_goto (tgt := 9) zm_52 (Or.inl (by decide)) D52_5 (by decide)).trans ?_
    exact Q_lreturn zm_52 (Or.inl (by decide)) D52_9 rfl

/-! HandsLet$Sums.join(IJJ)J -/
theorem D53_0 : decode prog_8_method_5_code 0 = .ok (.iload_n 0, 1) := by decide +kernel
theorem D53_1 : decode prog_8_method_5_code 1 = .ok (.tableswitch 267 7 31 #[157, 172, 187, 202, 217, 232, 247, 254, 261, 267, 267, 267, 267, 267, 267, 267, 267, 267, 267, 267, 267, 267, 267, 115, 136], 115) := by decide +kernel
theorem D53_116 : decode prog_8_method_5_code 116 = .ok (.lload_n 1, 1) := by decide +kernel
theorem D53_117 : decode prog_8_method_5_code 117 = .ok (.lconst 0, 1) := by decide +kernel
theorem D53_118 : decode prog_8_method_5_code 118 = .ok (.lcmp, 1) := by decide +kernel
theorem D53_119 : decode prog_8_method_5_code 119 = .ok (.ifCond .ne 9, 3) := by decide +kernel
theorem D53_122 : decode prog_8_method_5_code 122 = .ok (.lload_n 3, 1) := by decide +kernel
theorem D53_123 : decode prog_8_method_5_code 123 = .ok (.lconst 0, 1) := by decide +kernel
theorem D53_124 : decode prog_8_method_5_code 124 = .ok (.lcmp, 1) := by decide +kernel
theorem D53_125 : decode prog_8_method_5_code 125 = .ok (.ifCond .eq 7, 3) := by decide +kernel
theorem D53_128 : decode prog_8_method_5_code 128 = .ok (.iconst 1, 1) := by decide +kernel
theorem D53_129 : decode prog_8_method_5_code 129 = .ok (.goto 4, 3) := by decide +kernel
theorem D53_132 : decode prog_8_method_5_code 132 = .ok (.iconst 0, 1) := by decide +kernel
theorem D53_133 : decode prog_8_method_5_code 133 = .ok (.invokestatic 48, 3) := by decide +kernel
theorem D53_136 : decode prog_8_method_5_code 136 = .ok (.lreturn, 1) := by decide +kernel
theorem D53_137 : decode prog_8_method_5_code 137 = .ok (.lload_n 1, 1) := by decide +kernel
theorem D53_138 : decode prog_8_method_5_code 138 = .ok (.lconst 0, 1) := by decide +kernel
theorem D53_139 : decode prog_8_method_5_code 139 = .ok (.lcmp, 1) := by decide +kernel
theorem D53_140 : decode prog_8_method_5_code 140 = .ok (.ifCond .eq 13, 3) := by decide +kernel
theorem D53_143 : decode prog_8_method_5_code 143 = .ok (.lload_n 3, 1) := by decide +kernel
theorem D53_144 : decode prog_8_method_5_code 144 = .ok (.lconst 0, 1) := by decide +kernel
theorem D53_145 : decode prog_8_method_5_code 145 = .ok (.lcmp, 1) := by decide +kernel
theorem D53_146 : decode prog_8_method_5_code 146 = .ok (.ifCond .eq 7, 3) := by decide +kernel
theorem D53_149 : decode prog_8_method_5_code 149 = .ok (.iconst 1, 1) := by decide +kernel
theorem D53_150 : decode prog_8_method_5_code 150 = .ok (.goto 4, 3) := by decide +kernel
theorem D53_153 : decode prog_8_method_5_code 153 = .ok (.iconst 0, 1) := by decide +kernel
theorem D53_154 : decode prog_8_method_5_code 154 = .ok (.invokestatic 48, 3) := by decide +kernel
theorem D53_157 : decode prog_8_method_5_code 157 = .ok (.lreturn, 1) := by decide +kernel
theorem D53_158 : decode prog_8_method_5_code 158 = .ok (.lload_n 1, 1) := by decide +kernel
theorem D53_159 : decode prog_8_method_5_code 159 = .ok (.lload_n 3, 1) := by decide +kernel
theorem D53_160 : decode prog_8_method_5_code 160 = .ok (.lcmp, 1) := by decide +kernel
theorem D53_161 : decode prog_8_method_5_code 161 = .ok (.ifCond .ge 7, 3) := by decide +kernel
theorem D53_164 : decode prog_8_method_5_code 164 = .ok (.iconst 1, 1) := by decide +kernel
theorem D53_165 : decode prog_8_method_5_code 165 = .ok (.goto 4, 3) := by decide +kernel
theorem D53_168 : decode prog_8_method_5_code 168 = .ok (.iconst 0, 1) := by decide +kernel
theorem D53_169 : decode prog_8_method_5_code 169 = .ok (.invokestatic 48, 3) := by decide +kernel
theorem D53_172 : decode prog_8_method_5_code 172 = .ok (.lreturn, 1) := by decide +kernel
theorem D53_173 : decode prog_8_method_5_code 173 = .ok (.lload_n 1, 1) := by decide +kernel
theorem D53_174 : decode prog_8_method_5_code 174 = .ok (.lload_n 3, 1) := by decide +kernel
theorem D53_175 : decode prog_8_method_5_code 175 = .ok (.lcmp, 1) := by decide +kernel
theorem D53_176 : decode prog_8_method_5_code 176 = .ok (.ifCond .gt 7, 3) := by decide +kernel
theorem D53_179 : decode prog_8_method_5_code 179 = .ok (.iconst 1, 1) := by decide +kernel
theorem D53_180 : decode prog_8_method_5_code 180 = .ok (.goto 4, 3) := by decide +kernel
theorem D53_183 : decode prog_8_method_5_code 183 = .ok (.iconst 0, 1) := by decide +kernel
theorem D53_184 : decode prog_8_method_5_code 184 = .ok (.invokestatic 48, 3) := by decide +kernel
theorem D53_187 : decode prog_8_method_5_code 187 = .ok (.lreturn, 1) := by decide +kernel
theorem D53_188 : decode prog_8_method_5_code 188 = .ok (.lload_n 1, 1) := by decide +kernel
theorem D53_189 : decode prog_8_method_5_code 189 = .ok (.lload_n 3, 1) := by decide +kernel
theorem D53_190 : decode prog_8_method_5_code 190 = .ok (.lcmp, 1) := by decide +kernel
theorem D53_191 : decode prog_8_method_5_code 191 = .ok (.ifCond .ne 7, 3) := by decide +kernel
theorem D53_194 : decode prog_8_method_5_code 194 = .ok (.iconst 1, 1) := by decide +kernel
theorem D53_195 : decode prog_8_method_5_code 195 = .ok (.goto 4, 3) := by decide +kernel
theorem D53_198 : decode prog_8_method_5_code 198 = .ok (.iconst 0, 1) := by decide +kernel
theorem D53_199 : decode prog_8_method_5_code 199 = .ok (.invokestatic 48, 3) := by decide +kernel
theorem D53_202 : decode prog_8_method_5_code 202 = .ok (.lreturn, 1) := by decide +kernel
theorem D53_203 : decode prog_8_method_5_code 203 = .ok (.lload_n 1, 1) := by decide +kernel
theorem D53_204 : decode prog_8_method_5_code 204 = .ok (.lload_n 3, 1) := by decide +kernel
theorem D53_205 : decode prog_8_method_5_code 205 = .ok (.lcmp, 1) := by decide +kernel
theorem D53_206 : decode prog_8_method_5_code 206 = .ok (.ifCond .eq 7, 3) := by decide +kernel
theorem D53_209 : decode prog_8_method_5_code 209 = .ok (.iconst 1, 1) := by decide +kernel
theorem D53_210 : decode prog_8_method_5_code 210 = .ok (.goto 4, 3) := by decide +kernel
theorem D53_213 : decode prog_8_method_5_code 213 = .ok (.iconst 0, 1) := by decide +kernel
theorem D53_214 : decode prog_8_method_5_code 214 = .ok (.invokestatic 48, 3) := by decide +kernel
theorem D53_217 : decode prog_8_method_5_code 217 = .ok (.lreturn, 1) := by decide +kernel
theorem D53_218 : decode prog_8_method_5_code 218 = .ok (.lload_n 1, 1) := by decide +kernel
theorem D53_219 : decode prog_8_method_5_code 219 = .ok (.lload_n 3, 1) := by decide +kernel
theorem D53_220 : decode prog_8_method_5_code 220 = .ok (.lcmp, 1) := by decide +kernel
theorem D53_221 : decode prog_8_method_5_code 221 = .ok (.ifCond .lt 7, 3) := by decide +kernel
theorem D53_224 : decode prog_8_method_5_code 224 = .ok (.iconst 1, 1) := by decide +kernel
theorem D53_225 : decode prog_8_method_5_code 225 = .ok (.goto 4, 3) := by decide +kernel
theorem D53_228 : decode prog_8_method_5_code 228 = .ok (.iconst 0, 1) := by decide +kernel
theorem D53_229 : decode prog_8_method_5_code 229 = .ok (.invokestatic 48, 3) := by decide +kernel
theorem D53_232 : decode prog_8_method_5_code 232 = .ok (.lreturn, 1) := by decide +kernel
theorem D53_233 : decode prog_8_method_5_code 233 = .ok (.lload_n 1, 1) := by decide +kernel
theorem D53_234 : decode prog_8_method_5_code 234 = .ok (.lload_n 3, 1) := by decide +kernel
theorem D53_235 : decode prog_8_method_5_code 235 = .ok (.lcmp, 1) := by decide +kernel
theorem D53_236 : decode prog_8_method_5_code 236 = .ok (.ifCond .le 7, 3) := by decide +kernel
theorem D53_239 : decode prog_8_method_5_code 239 = .ok (.iconst 1, 1) := by decide +kernel
theorem D53_240 : decode prog_8_method_5_code 240 = .ok (.goto 4, 3) := by decide +kernel
theorem D53_243 : decode prog_8_method_5_code 243 = .ok (.iconst 0, 1) := by decide +kernel
theorem D53_244 : decode prog_8_method_5_code 244 = .ok (.invokestatic 48, 3) := by decide +kernel
theorem D53_247 : decode prog_8_method_5_code 247 = .ok (.lreturn, 1) := by decide +kernel
theorem D53_248 : decode prog_8_method_5_code 248 = .ok (.lload_n 1, 1) := by decide +kernel
theorem D53_249 : decode prog_8_method_5_code 249 = .ok (.lload_n 3, 1) := by decide +kernel
theorem D53_250 : decode prog_8_method_5_code 250 = .ok (.ladd, 1) := by decide +kernel
theorem D53_251 : decode prog_8_method_5_code 251 = .ok (.invokestatic 58, 3) := by decide +kernel
theorem D53_254 : decode prog_8_method_5_code 254 = .ok (.lreturn, 1) := by decide +kernel
theorem D53_255 : decode prog_8_method_5_code 255 = .ok (.lload_n 1, 1) := by decide +kernel
theorem D53_256 : decode prog_8_method_5_code 256 = .ok (.lload_n 3, 1) := by decide +kernel
theorem D53_257 : decode prog_8_method_5_code 257 = .ok (.lsub, 1) := by decide +kernel
theorem D53_258 : decode prog_8_method_5_code 258 = .ok (.invokestatic 58, 3) := by decide +kernel
theorem D53_261 : decode prog_8_method_5_code 261 = .ok (.lreturn, 1) := by decide +kernel
theorem D53_262 : decode prog_8_method_5_code 262 = .ok (.lload_n 1, 1) := by decide +kernel
theorem D53_263 : decode prog_8_method_5_code 263 = .ok (.lload_n 3, 1) := by decide +kernel
theorem D53_264 : decode prog_8_method_5_code 264 = .ok (.invokestatic 62, 3) := by decide +kernel
theorem D53_267 : decode prog_8_method_5_code 267 = .ok (.lreturn, 1) := by decide +kernel
theorem D53_268 : decode prog_8_method_5_code 268 = .ok (.lload_n 3, 1) := by decide +kernel
theorem D53_269 : decode prog_8_method_5_code 269 = .ok (.lconst 0, 1) := by decide +kernel
theorem D53_270 : decode prog_8_method_5_code 270 = .ok (.lcmp, 1) := by decide +kernel
theorem D53_271 : decode prog_8_method_5_code 271 = .ok (.ifCond .ne 9, 3) := by decide +kernel
theorem D53_274 : decode prog_8_method_5_code 274 = .ok (.ldc2_w 56, 3) := by decide +kernel
theorem D53_277 : decode prog_8_method_5_code 277 = .ok (.goto 6, 3) := by decide +kernel
theorem D53_280 : decode prog_8_method_5_code 280 = .ok (.lload_n 1, 1) := by decide +kernel
theorem D53_281 : decode prog_8_method_5_code 281 = .ok (.lload_n 3, 1) := by decide +kernel
theorem D53_282 : decode prog_8_method_5_code 282 = .ok (.ldiv, 1) := by decide +kernel
theorem D53_283 : decode prog_8_method_5_code 283 = .ok (.lreturn, 1) := by decide +kernel

set_option maxRecDepth 20000 in
theorem b53_0 {d : Nat} {i0 : Int32} {j1 : Int64} {j3 : Int64} {ia : Nat → Nat → Int32} {la : Nat → Nat → Int64} {pl dr : Nat} {cp : Option Nat} {cw : Option Nat} {rp : Option Nat} {K : Option Value → zHP → Prop}  : zWP (d + 1) 53 0 [some (.int i0), some (.long j1), none, some (.long j3), none] [] (ia, la, zRA pl dr cp cw rp) K = (if i0 = 7 then (if 0 ≤ (lg_cmp j1 j3) then zWM d 52 [.int (0 : Int32)] (ia, la, zRA pl dr cp cw rp) (zK (d + 1) 53 172 [some (.int i0), some (.long j1), none, some (.long j3), none] [] K) else zWM d 52 [.int (1 : Int32)] (ia, la, zRA pl dr cp cw rp) (zK (d + 1) 53 172 [some (.int i0), some (.long j1), none, some (.long j3), none] [] K)) else (if i0 = 8 then (if 0 < (lg_cmp j1 j3) then zWM d 52 [.int (0 : Int32)] (ia, la, zRA pl dr cp cw rp) (zK (d + 1) 53 187 [some (.int i0), some (.long j1), none, some (.long j3), none] [] K) else zWM d 52 [.int (1 : Int32)] (ia, la, zRA pl dr cp cw rp) (zK (d + 1) 53 187 [some (.int i0), some (.long j1), none, some (.long j3), none] [] K)) else (if i0 = 9 then (if ¬ (lg_cmp j1 j3) = 0 then zWM d 52 [.int (0 : Int32)] (ia, la, zRA pl dr cp cw rp) (zK (d + 1) 53 202 [some (.int i0), some (.long j1), none, some (.long j3), none] [] K) else zWM d 52 [.int (1 : Int32)] (ia, la, zRA pl dr cp cw rp) (zK (d + 1) 53 202 [some (.int i0), some (.long j1), none, some (.long j3), none] [] K)) else (if i0 = 10 then (if (lg_cmp j1 j3) = 0 then zWM d 52 [.int (0 : Int32)] (ia, la, zRA pl dr cp cw rp) (zK (d + 1) 53 217 [some (.int i0), some (.long j1), none, some (.long j3), none] [] K) else zWM d 52 [.int (1 : Int32)] (ia, la, zRA pl dr cp cw rp) (zK (d + 1) 53 217 [some (.int i0), some (.long j1), none, some (.long j3), none] [] K)) else (if i0 = 11 then (if (lg_cmp j1 j3) < 0 then zWM d 52 [.int (0 : Int32)] (ia, la, zRA pl dr cp cw rp) (zK (d + 1) 53 232 [some (.int i0), some (.long j1), none, some (.long j3), none] [] K) else zWM d 52 [.int (1 : Int32)] (ia, la, zRA pl dr cp cw rp) (zK (d + 1) 53 232 [some (.int i0), some (.long j1), none, some (.long j3), none] [] K)) else (if i0 = 12 then (if (lg_cmp j1 j3) ≤ 0 then zWM d 52 [.int (0 : Int32)] (ia, la, zRA pl dr cp cw rp) (zK (d + 1) 53 247 [some (.int i0), some (.long j1), none, some (.long j3), none] [] K) else zWM d 52 [.int (1 : Int32)] (ia, la, zRA pl dr cp cw rp) (zK (d + 1) 53 247 [some (.int i0), some (.long j1), none, some (.long j3), none] [] K)) else (if i0 = 13 then zWM d 54 [.long (j1 + j3)] (ia, la, zRA pl dr cp cw rp) (zK (d + 1) 53 254 [some (.int i0), some (.long j1), none, some (.long j3), none] [] K) else (if i0 = 14 then zWM d 54 [.long (j1 - j3)] (ia, la, zRA pl dr cp cw rp) (zK (d + 1) 53 261 [some (.int i0), some (.long j1), none, some (.long j3), none] [] K) else (if i0 = 15 then zWM d 55 [.long j1, .long j3] (ia, la, zRA pl dr cp cw rp) (zK (d + 1) 53 267 [some (.int i0), some (.long j1), none, some (.long j3), none] [] K) else (if i0 = 16 then zWP (d + 1) 53 268 [some (.int i0), some (.long j1), none, some (.long j3), none] [] (ia, la, zRA pl dr cp cw rp) K else (if i0 = 17 then zWP (d + 1) 53 268 [some (.int i0), some (.long j1), none, some (.long j3), none] [] (ia, la, zRA pl dr cp cw rp) K else (if i0 = 18 then zWP (d + 1) 53 268 [some (.int i0), some (.long j1), none, some (.long j3), none] [] (ia, la, zRA pl dr cp cw rp) K else (if i0 = 19 then zWP (d + 1) 53 268 [some (.int i0), some (.long j1), none, some (.long j3), none] [] (ia, la, zRA pl dr cp cw rp) K else (if i0 = 20 then zWP (d + 1) 53 268 [some (.int i0), some (.long j1), none, some (.long j3), none] [] (ia, la, zRA pl dr cp cw rp) K else (if i0 = 21 then zWP (d + 1) 53 268 [some (.int i0), some (.long j1), none, some (.long j3), none] [] (ia, la, zRA pl dr cp cw rp) K else (if i0 = 22 then zWP (d + 1) 53 268 [some (.int i0), some (.long j1), none, some (.long j3), none] [] (ia, la, zRA pl dr cp cw rp) K else (if i0 = 23 then zWP (d + 1) 53 268 [some (.int i0), some (.long j1), none, some (.long j3), none] [] (ia, la, zRA pl dr cp cw rp) K else (if i0 = 24 then zWP (d + 1) 53 268 [some (.int i0), some (.long j1), none, some (.long j3), none] [] (ia, la, zRA pl dr cp cw rp) K else (if i0 = 25 then zWP (d + 1) 53 268 [some (.int i0), some (.long j1), none, some (.long j3), none] [] (ia, la, zRA pl dr cp cw rp) K else (if i0 = 26 then zWP (d + 1) 53 268 [some (.int i0), some (.long j1), none, some (.long j3), none] [] (ia, la, zRA pl dr cp cw rp) K else (if i0 = 27 then zWP (d + 1) 53 268 [some (.int i0), some (.long j1), none, some (.long j3), none] [] (ia, la, zRA pl dr cp cw rp) K else (if i0 = 28 then zWP (d + 1) 53 268 [some (.int i0), some (.long j1), none, some (.long j3), none] [] (ia, la, zRA pl dr cp cw rp) K else (if i0 = 29 then zWP (d + 1) 53 268 [some (.int i0), some (.long j1), none, some (.long j3), none] [] (ia, la, zRA pl dr cp cw rp) K else (if i0 = 30 then (if ¬ (lg_cmp j1 (0 : Int64)) = 0 then zWM d 52 [.int (1 : Int32)] (ia, la, zRA pl dr cp cw rp) (zK (d + 1) 53 136 [some (.int i0), some (.long j1), none, some (.long j3), none] [] K) else (if (lg_cmp j3 (0 : Int64)) = 0 then zWM d 52 [.int (0 : Int32)] (ia, la, zRA pl dr cp cw rp) (zK (d + 1) 53 136 [some (.int i0), some (.long j1), none, some (.long j3), none] [] K) else zWM d 52 [.int (1 : Int32)] (ia, la, zRA pl dr cp cw rp) (zK (d + 1) 53 136 [some (.int i0), some (.long j1), none, some (.long j3), none] [] K))) else (if i0 = 31 then (if (lg_cmp j1 (0 : Int64)) = 0 then zWM d 52 [.int (0 : Int32)] (ia, la, zRA pl dr cp cw rp) (zK (d + 1) 53 157 [some (.int i0), some (.long j1), none, some (.long j3), none] [] K) else (if (lg_cmp j3 (0 : Int64)) = 0 then zWM d 52 [.int (0 : Int32)] (ia, la, zRA pl dr cp cw rp) (zK (d + 1) 53 157 [some (.int i0), some (.long j1), none, some (.long j3), none] [] K) else zWM d 52 [.int (1 : Int32)] (ia, la, zRA pl dr cp cw rp) (zK (d + 1) 53 157 [some (.int i0), some (.long j1), none, some (.long j3), none] [] K))) else zWP (d + 1) 53 268 [some (.int i0), some (.long j1), none, some (.long j3), none] [] (ia, la, zRA pl dr cp cw rp) K))))))))))))))))))))))))) := by
  refine (Q_iload_n zm_53 (Or.inl (by decide)) D53_0 rfl).trans ?_
  by_cases h0_ : i0 = 7
  · rw [if_pos h0_]
    refine (congrArg (fun q => zWP (d + 1) 53 1 [some (.int i0), some (.long j1), none, some (.long j3), none] (.int q :: []) (ia, la, zRA pl dr cp cw rp) K) h0_).trans ?_
    refine (Q_tsw (tgt := 158) zm_53 (Or.inl (by decide)) D53_1 rfl (by decide)).trans ?_
    refine (Q_lload_n zm_53 (Or.inl (by decide)) D53_158 rfl).trans ?_
    refine (Q_lload_n zm_53 (Or.inl (by decide)) D53_159 rfl).trans ?_
    refine (Q_lcmp zm_53 (Or.inl (by decide)) D53_160).trans ?_
    refine (Q_if_ge (tgt := 168) zm_53 (Or.inl (by decide)) D53_161 (by decide)).trans ?_
    refine zif_c (fun h1_ => ?_) (fun h1_ => ?_)
    · refine (Q_iconst (v := 0) zm_53 (Or.inl (by decide)) D53_168 (by decide)).trans ?_
      exact Q_calls (as := [.int (0 : Int32)]) (rest := []) zm_53 (Or.inl (by decide)) D53_169 zc_6_48 rfl (by decide) (by simp [zcat, Value.category]) zm_52 rfl
    · refine (Q_iconst (v := 1) zm_53 (Or.inl (by decide)) D53_164 (by decide)).trans ?_
      refine (Q_goto (tgt := 169) zm_53 (Or.inl (by decide)) D53_165 (by decide)).trans ?_
      exact Q_calls (as := [.int (1 : Int32)]) (rest := []) zm_53 (Or.inl (by decide)) D53_169 zc_6_48 rfl (by decide) (by simp [zcat, Value.category]) zm_52 rfl
  rw [if_neg h0_]
  by_cases h2_ : i0 = 8
  · rw [if_pos h2_]
    refine (congrArg (fun q => zWP (d + 1) 53 1 [some (.int i0), some (.long j1), none, some (.long j3), none] (.int q :: []) (ia, la, zRA pl dr cp cw rp) K) h2_).trans ?_
    refine (Q_tsw (tgt := 173) zm_53 (Or.inl (by decide)) D53_1 rfl (by decide)).trans ?_
    refine (Q_lload_n zm_53 (Or.inl (by decide)) D53_173 rfl).trans ?_
    refine (Q_lload_n zm_53 (Or.inl (by decide)) D53_174 rfl).trans ?_
    refine (Q_lcmp zm_53 (Or.inl (by decide)) D53_175).trans ?_
    refine (Q_if_gt (tgt := 183) zm_53 (Or.inl (by decide)) D53_176 (by decide)).trans ?_
    refine zif_c (fun h3_ => ?_) (fun h3_ => ?_)
    · refine (Q_iconst (v := 0) zm_53 (Or.inl (by decide)) D53_183 (by decide)).trans ?_
      exact Q_calls (as := [.int (0 : Int32)]) (rest := []) zm_53 (Or.inl (by decide)) D53_184 zc_6_48 rfl (by decide) (by simp [zcat, Value.category]) zm_52 rfl
    · refine (Q_iconst (v := 1) zm_53 (Or.inl (by decide)) D53_179 (by decide)).trans ?_
      refine (Q_goto (tgt := 184) zm_53 (Or.inl (by decide)) D53_180 (by decide)).trans ?_
      exact Q_calls (as := [.int (1 : Int32)]) (rest := []) zm_53 (Or.inl (by decide)) D53_184 zc_6_48 rfl (by decide) (by simp [zcat, Value.category]) zm_52 rfl
  rw [if_neg h2_]
  by_cases h4_ : i0 = 9
  · rw [if_pos h4_]
    refine (congrArg (fun q => zWP (d + 1) 53 1 [some (.int i0), some (.long j1), none, some (.long j3), none] (.int q :: []) (ia, la, zRA pl dr cp cw rp) K) h4_).trans ?_
    refine (Q_tsw (tgt := 188) zm_53 (Or.inl (by decide)) D53_1 rfl (by decide)).trans ?_
    refine (Q_lload_n zm_53 (Or.inl (by decide)) D53_188 rfl).trans ?_
    refine (Q_lload_n zm_53 (Or.inl (by decide)) D53_189 rfl).trans ?_
    refine (Q_lcmp zm_53 (Or.inl (by decide)) D53_190).trans ?_
    refine (Q_if_ne (tgt := 198) zm_53 (Or.inl (by decide)) D53_191 (by decide)).trans ?_
    refine zif_c (fun h5_ => ?_) (fun h5_ => ?_)
    · refine (Q_iconst (v := 0) zm_53 (Or.inl (by decide)) D53_198 (by decide)).trans ?_
      exact Q_calls (as := [.int (0 : Int32)]) (rest := []) zm_53 (Or.inl (by decide)) D53_199 zc_6_48 rfl (by decide) (by simp [zcat, Value.category]) zm_52 rfl
    · refine (Q_iconst (v := 1) zm_53 (Or.inl (by decide)) D53_194 (by decide)).trans ?_
      refine (Q_goto (tgt := 199) zm_53 (Or.inl (by decide)) D53_195 (by decide)).trans ?_
      exact Q_calls (as := [.int (1 : Int32)]) (rest := []) zm_53 (Or.inl (by decide)) D53_199 zc_6_48 rfl (by decide) (by simp [zcat, Value.category]) zm_52 rfl
  rw [if_neg h4_]
  by_cases h6_ : i0 = 10
  · rw [if_pos h6_]
    refine (congrArg (fun q => zWP (d + 1) 53 1 [some (.int i0), some (.long j1), none, some (.long j3), none] (.int q :: []) (ia, la, zRA pl dr cp cw rp) K) h6_).trans ?_
    refine (Q_tsw (tgt := 203) zm_53 (Or.inl (by decide)) D53_1 rfl (by decide)).trans ?_
    refine (Q_lload_n zm_53 (Or.inl (by decide)) D53_203 rfl).trans ?_
    refine (Q_lload_n zm_53 (Or.inl (by decide)) D53_204 rfl).trans ?_
    refine (Q_lcmp zm_53 (Or.inl (by decide)) D53_205).trans ?_
    refine (Q_if_eq (tgt := 213) zm_53 (Or.inl (by decide)) D53_206 (by decide)).trans ?_
    refine zif_c (fun h7_ => ?_) (fun h7_ => ?_)
    · refine (Q_iconst (v := 0) zm_53 (Or.inl (by decide)) D53_213 (by decide)).trans ?_
      exact Q_calls (as := [.int (0 : Int32)]) (rest := []) zm_53 (Or.inl (by decide)) D53_214 zc_6_48 rfl (by decide) (by simp [zcat, Value.category]) zm_52 rfl
    · refine (Q_iconst (v := 1) zm_53 (Or.inl (by decide)) D53_209 (by decide)).trans ?_
      refine (Q_goto (tgt := 214) zm_53 (Or.inl (by decide)) D53_210 (by decide)).trans ?_
      exact Q_calls (as := [.int (1 : Int32)]) (rest := []) zm_53 (Or.inl (by decide)) D53_214 zc_6_48 rfl (by decide) (by simp [zcat, Value.category]) zm_52 rfl
  rw [if_neg h6_]
  by_cases h8_ : i0 = 11
  · rw [if_pos h8_]
    refine (congrArg (fun q => zWP (d + 1) 53 1 [some (.int i0), some (.long j1), none, some (.long j3), none] (.int q :: []) (ia, la, zRA pl dr cp cw rp) K) h8_).trans ?_
    refine (Q_tsw (tgt := 218) zm_53 (Or.inl (by decide)) D53_1 rfl (by decide)).trans ?_
    refine (Q_lload_n zm_53 (Or.inl (by decide)) D53_218 rfl).trans ?_
    refine (Q_lload_n zm_53 (Or.inl (by decide)) D53_219 rfl).trans ?_
    refine (Q_lcmp zm_53 (Or.inl (by decide)) D53_220).trans ?_
    refine (Q_if_lt (tgt := 228) zm_53 (Or.inl (by decide)) D53_221 (by decide)).trans ?_
    refine zif_c (fun h9_ => ?_) (fun h9_ => ?_)
    · refine (Q_iconst (v := 0) zm_53 (Or.inl (by decide)) D53_228 (by decide)).trans ?_
      exact Q_calls (as := [.int (0 : Int32)]) (rest := []) zm_53 (Or.inl (by decide)) D53_229 zc_6_48 rfl (by decide) (by simp [zcat, Value.category]) zm_52 rfl
    · refine (Q_iconst (v := 1) zm_53 (Or.inl (by decide)) D53_224 (by decide)).trans ?_
      refine (Q_goto (tgt := 229) zm_53 (Or.inl (by decide)) D53_225 (by decide)).trans ?_
      exact Q_calls (as := [.int (1 : Int32)]) (rest := []) zm_53 (Or.inl (by decide)) D53_229 zc_6_48 rfl (by decide) (by simp [zcat, Value.category]) zm_52 rfl
  rw [if_neg h8_]
  by_cases h10_ : i0 = 12
  · rw [if_pos h10_]
    refine (congrArg (fun q => zWP (d + 1) 53 1 [some (.int i0), some (.long j1), none, some (.long j3), none] (.int q :: []) (ia, la, zRA pl dr cp cw rp) K) h10_).trans ?_
    refine (Q_tsw (tgt := 233) zm_53 (Or.inl (by decide)) D53_1 rfl (by decide)).trans ?_
    refine (Q_lload_n zm_53 (Or.inl (by decide)) D53_233 rfl).trans ?_
    refine (Q_lload_n zm_53 (Or.inl (by decide)) D53_234 rfl).trans ?_
    refine (Q_lcmp zm_53 (Or.inl (by decide)) D53_235).trans ?_
    refine (Q_if_le (tgt := 243) zm_53 (Or.inl (by decide)) D53_236 (by decide)).trans ?_
    refine zif_c (fun h11_ => ?_) (fun h11_ => ?_)
    · refine (Q_iconst (v := 0) zm_53 (Or.inl (by decide)) D53_243 (by decide)).trans ?_
      exact Q_calls (as := [.int (0 : Int32)]) (rest := []) zm_53 (Or.inl (by decide)) D53_244 zc_6_48 rfl (by decide) (by simp [zcat, Value.category]) zm_52 rfl
    · refine (Q_iconst (v := 1) zm_53 (Or.inl (by decide)) D53_239 (by decide)).trans ?_
      refine (Q_goto (tgt := 244) zm_53 (Or.inl (by decide)) D53_240 (by decide)).trans ?_
      exact Q_calls (as := [.int (1 : Int32)]) (rest := []) zm_53 (Or.inl (by decide)) D53_244 zc_6_48 rfl (by decide) (by simp [zcat, Value.category]) zm_52 rfl
  rw [if_neg h10_]
  by_cases h12_ : i0 = 13
  · rw [if_pos h12_]
    refine (congrArg (fun q => zWP (d + 1) 53 1 [some (.int i0), some (.long j1), none, some (.long j3), none] (.int q :: []) (ia, la, zRA pl dr cp cw rp) K) h12_).trans ?_
    refine (Q_tsw (tgt := 248) zm_53 (Or.inl (by decide)) D53_1 rfl (by decide)).trans ?_
    refine (Q_lload_n zm_53 (Or.inl (by decide)) D53_248 rfl).trans ?_
    refine (Q_lload_n zm_53 (Or.inl (by decide)) D53_249 rfl).trans ?_
    refine (Q_ladd zm_53 (Or.inl (by decide)) D53_250).trans ?_
    exact Q_calls (as := [.long (j1 + j3)]) (rest := []) zm_53 (Or.inl (by decide)) D53_251 zc_6_58 rfl (by decide) (by simp [zcat, Value.category]) zm_54 rfl
  rw [if_neg h12_]
  by_cases h13_ : i0 = 14
  · rw [if_pos h13_]
    refine (congrArg (fun q => zWP (d + 1) 53 1 [some (.int i0), some (.long j1), none, some (.long j3), none] (.int q :: []) (ia, la, zRA pl dr cp cw rp) K) h13_).trans ?_
    refine (Q_tsw (tgt := 255) zm_53 (Or.inl (by decide)) D53_1 rfl (by decide)).trans ?_
    refine (Q_lload_n zm_53 (Or.inl (by decide)) D53_255 rfl).trans ?_
    refine (Q_lload_n zm_53 (Or.inl (by decide)) D53_256 rfl).trans ?_
    refine (Q_lsub zm_53 (Or.inl (by decide)) D53_257).trans ?_
    exact Q_calls (as := [.long (j1 - j3)]) (rest := []) zm_53 (Or.inl (by decide)) D53_258 zc_6_58 rfl (by decide) (by simp [zcat, Value.category]) zm_54 rfl
  rw [if_neg h13_]
  by_cases h14_ : i0 = 15
  · rw [if_pos h14_]
    refine (congrArg (fun q => zWP (d + 1) 53 1 [some (.int i0), some (.long j1), none, some (.long j3), none] (.int q :: []) (ia, la, zRA pl dr cp cw rp) K) h14_).trans ?_
    refine (Q_tsw (tgt := 262) zm_53 (Or.inl (by decide)) D53_1 rfl (by decide)).trans ?_
    refine (Q_lload_n zm_53 (Or.inl (by decide)) D53_262 rfl).trans ?_
    refine (Q_lload_n zm_53 (Or.inl (by decide)) D53_263 rfl).trans ?_
    exact Q_calls (as := [.long j1, .long j3]) (rest := []) zm_53 (Or.inl (by decide)) D53_264 zc_6_62 rfl (by decide) (by simp [zcat, Value.category]) zm_55 rfl
  rw [if_neg h14_]
  by_cases h15_ : i0 = 16
  · rw [if_pos h15_]
    refine (congrArg (fun q => zWP (d + 1) 53 1 [some (.int i0), some (.long j1), none, some (.long j3), none] (.int q :: []) (ia, la, zRA pl dr cp cw rp) K) h15_).trans ?_
    refine (Q_tsw (tgt := 268) zm_53 (Or.inl (by decide)) D53_1 rfl (by decide)).trans ?_
    rfl
  rw [if_neg h15_]
  by_cases h16_ : i0 = 17
  · rw [if_pos h16_]
    refine (congrArg (fun q => zWP (d + 1) 53 1 [some (.int i0), some (.long j1), none, some (.long j3), none] (.int q :: []) (ia, la, zRA pl dr cp cw rp) K) h16_).trans ?_
    refine (Q_tsw (tgt := 268) zm_53 (Or.inl (by decide)) D53_1 rfl (by decide)).trans ?_
    rfl
  rw [if_neg h16_]
  by_cases h17_ : i0 = 18
  · rw [if_pos h17_]
    refine (congrArg (fun q => zWP (d + 1) 53 1 [some (.int i0), some (.long j1), none, some (.long j3), none] (.int q :: []) (ia, la, zRA pl dr cp cw rp) K) h17_).trans ?_
    refine (Q_tsw (tgt := 268) zm_53 (Or.inl (by decide)) D53_1 rfl (by decide)).trans ?_
    rfl
  rw [if_neg h17_]
  by_cases h18_ : i0 = 19
  · rw [if_pos h18_]
    refine (congrArg (fun q => zWP (d + 1) 53 1 [some (.int i0), some (.long j1), none, some (.long j3), none] (.int q :: []) (ia, la, zRA pl dr cp cw rp) K) h18_).trans ?_
    refine (Q_tsw (tgt := 268) zm_53 (Or.inl (by decide)) D53_1 rfl (by decide)).trans ?_
    rfl
  rw [if_neg h18_]
  by_cases h19_ : i0 = 20
  · rw [if_pos h19_]
    refine (congrArg (fun q => zWP (d + 1) 53 1 [some (.int i0), some (.long j1), none, some (.long j3), none] (.int q :: []) (ia, la, zRA pl dr cp cw rp) K) h19_).trans ?_
    refine (Q_tsw (tgt := 268) zm_53 (Or.inl (by decide)) D53_1 rfl (by decide)).trans ?_
    rfl
  rw [if_neg h19_]
  by_cases h20_ : i0 = 21
  · rw [if_pos h20_]
    refine (congrArg (fun q => zWP (d + 1) 53 1 [some (.int i0), some (.long j1), none, some (.long j3), none] (.int q :: []) (ia, la, zRA pl dr cp cw rp) K) h20_).trans ?_
    refine (Q_tsw (tgt := 268) zm_53 (Or.inl (by decide)) D53_1 rfl (by decide)).trans ?_
    rfl
  rw [if_neg h20_]
  by_cases h21_ : i0 = 22
  · rw [if_pos h21_]
    refine (congrArg (fun q => zWP (d + 1) 53 1 [some (.int i0), some (.long j1), none, some (.long j3), none] (.int q :: []) (ia, la, zRA pl dr cp cw rp) K) h21_).trans ?_
    refine (Q_tsw (tgt := 268) zm_53 (Or.inl (by decide)) D53_1 rfl (by decide)).trans ?_
    rfl
  rw [if_neg h21_]
  by_cases h22_ : i0 = 23
  · rw [if_pos h22_]
    refine (congrArg (fun q => zWP (d + 1) 53 1 [some (.int i0), some (.long j1), none, some (.long j3), none] (.int q :: []) (ia, la, zRA pl dr cp cw rp) K) h22_).trans ?_
    refine (Q_tsw (tgt := 268) zm_53 (Or.inl (by decide)) D53_1 rfl (by decide)).trans ?_
    rfl
  rw [if_neg h22_]
  by_cases h23_ : i0 = 24
  · rw [if_pos h23_]
    refine (congrArg (fun q => zWP (d + 1) 53 1 [some (.int i0), some (.long j1), none, some (.long j3), none] (.int q :: []) (ia, la, zRA pl dr cp cw rp) K) h23_).trans ?_
    refine (Q_tsw (tgt := 268) zm_53 (Or.inl (by decide)) D53_1 rfl (by decide)).trans ?_
    rfl
  rw [if_neg h23_]
  by_cases h24_ : i0 = 25
  · rw [if_pos h24_]
    refine (congrArg (fun q => zWP (d + 1) 53 1 [some (.int i0), some (.long j1), none, some (.long j3), none] (.int q :: []) (ia, la, zRA pl dr cp cw rp) K) h24_).trans ?_
    refine (Q_tsw (tgt := 268) zm_53 (Or.inl (by decide)) D53_1 rfl (by decide)).trans ?_
    rfl
  rw [if_neg h24_]
  by_cases h25_ : i0 = 26
  · rw [if_pos h25_]
    refine (congrArg (fun q => zWP (d + 1) 53 1 [some (.int i0), some (.long j1), none, some (.long j3), none] (.int q :: []) (ia, la, zRA pl dr cp cw rp) K) h25_).trans ?_
    refine (Q_tsw (tgt := 268) zm_53 (Or.inl (by decide)) D53_1 rfl (by decide)).trans ?_
    rfl
  rw [if_neg h25_]
  by_cases h26_ : i0 = 27
  · rw [if_pos h26_]
    refine (congrArg (fun q => zWP (d + 1) 53 1 [some (.int i0), some (.long j1), none, some (.long j3), none] (.int q :: []) (ia, la, zRA pl dr cp cw rp) K) h26_).trans ?_
    refine (Q_tsw (tgt := 268) zm_53 (Or.inl (by decide)) D53_1 rfl (by decide)).trans ?_
    rfl
  rw [if_neg h26_]
  by_cases h27_ : i0 = 28
  · rw [if_pos h27_]
    refine (congrArg (fun q => zWP (d + 1) 53 1 [some (.int i0), some (.long j1), none, some (.long j3), none] (.int q :: []) (ia, la, zRA pl dr cp cw rp) K) h27_).trans ?_
    refine (Q_tsw (tgt := 268) zm_53 (Or.inl (by decide)) D53_1 rfl (by decide)).trans ?_
    rfl
  rw [if_neg h27_]
  by_cases h28_ : i0 = 29
  · rw [if_pos h28_]
    refine (congrArg (fun q => zWP (d + 1) 53 1 [some (.int i0), some (.long j1), none, some (.long j3), none] (.int q :: []) (ia, la, zRA pl dr cp cw rp) K) h28_).trans ?_
    refine (Q_tsw (tgt := 268) zm_53 (Or.inl (by decide)) D53_1 rfl (by decide)).trans ?_
    rfl
  rw [if_neg h28_]
  by_cases h29_ : i0 = 30
  · rw [if_pos h29_]
    refine (congrArg (fun q => zWP (d + 1) 53 1 [some (.int i0), some (.long j1), none, some (.long j3), none] (.int q :: []) (ia, la, zRA pl dr cp cw rp) K) h29_).trans ?_
    refine (Q_tsw (tgt := 116) zm_53 (Or.inl (by decide)) D53_1 rfl (by decide)).trans ?_
    refine (Q_lload_n zm_53 (Or.inl (by decide)) D53_116 rfl).trans ?_
    refine (Q_lconst (v := 0) zm_53 (Or.inl (by decide)) D53_117 (by decide)).trans ?_
    refine (Q_lcmp zm_53 (Or.inl (by decide)) D53_118).trans ?_
    refine (Q_if_ne (tgt := 128) zm_53 (Or.inl (by decide)) D53_119 (by decide)).trans ?_
    refine zif_c (fun h30_ => ?_) (fun h30_ => ?_)
    · refine (Q_iconst (v := 1) zm_53 (Or.inl (by decide)) D53_128 (by decide)).trans ?_
      refine (Q_goto (tgt := 133) zm_53 (Or.inl (by decide)) D53_129 (by decide)).trans ?_
      exact Q_calls (as := [.int (1 : Int32)]) (rest := []) zm_53 (Or.inl (by decide)) D53_133 zc_6_48 rfl (by decide) (by simp [zcat, Value.category]) zm_52 rfl
    · refine (Q_lload_n zm_53 (Or.inl (by decide)) D53_122 rfl).trans ?_
      refine (Q_lconst (v := 0) zm_53 (Or.inl (by decide)) D53_123 (by decide)).trans ?_
      refine (Q_lcmp zm_53 (Or.inl (by decide)) D53_124).trans ?_
      refine (Q_if_eq (tgt := 132) zm_53 (Or.inl (by decide)) D53_125 (by decide)).trans ?_
      refine zif_c (fun h31_ => ?_) (fun h31_ => ?_)
      · refine (Q_iconst (v := 0) zm_53 (Or.inl (by decide)) D53_132 (by decide)).trans ?_
        exact Q_calls (as := [.int (0 : Int32)]) (rest := []) zm_53 (Or.inl (by decide)) D53_133 zc_6_48 rfl (by decide) (by simp [zcat, Value.category]) zm_52 rfl
      · refine (Q_iconst (v := 1) zm_53 (Or.inl (by decide)) D53_128 (by decide)).trans ?_
        refine (Q_goto (tgt := 133) zm_53 (Or.inl (by decide)) D53_129 (by decide)).trans ?_
        exact Q_calls (as := [.int (1 : Int32)]) (rest := []) zm_53 (Or.inl (by decide)) D53_133 zc_6_48 rfl (by decide) (by simp [zcat, Value.category]) zm_52 rfl
  rw [if_neg h29_]
  by_cases h32_ : i0 = 31
  · rw [if_pos h32_]
    refine (congrArg (fun q => zWP (d + 1) 53 1 [some (.int i0), some (.long j1), none, some (.long j3), none] (.int q :: []) (ia, la, zRA pl dr cp cw rp) K) h32_).trans ?_
    refine (Q_tsw (tgt := 137) zm_53 (Or.inl (by decide)) D53_1 rfl (by decide)).trans ?_
    refine (Q_lload_n zm_53 (Or.inl (by decide)) D53_137 rfl).trans ?_
    refine (Q_lconst (v := 0) zm_53 (Or.inl (by decide)) D53_138 (by decide)).trans ?_
    refine (Q_lcmp zm_53 (Or.inl (by decide)) D53_139).trans ?_
    refine (Q_if_eq (tgt := 153) zm_53 (Or.inl (by decide)) D53_140 (by decide)).trans ?_
    refine zif_c (fun h33_ => ?_) (fun h33_ => ?_)
    · refine (Q_iconst (v := 0) zm_53 (Or.inl (by decide)) D53_153 (by decide)).trans ?_
      exact Q_calls (as := [.int (0 : Int32)]) (rest := []) zm_53 (Or.inl (by decide)) D53_154 zc_6_48 rfl (by decide) (by simp [zcat, Value.category]) zm_52 rfl
    · refine (Q_lload_n zm_53 (Or.inl (by decide)) D53_143 rfl).trans ?_
      refine (Q_lconst (v := 0) zm_53 (Or.inl (by decide)) D53_144 (by decide)).trans ?_
      refine (Q_lcmp zm_53 (Or.inl (by decide)) D53_145).trans ?_
      refine (Q_if_eq (tgt := 153) zm_53 (Or.inl (by decide)) D53_146 (by decide)).trans ?_
      refine zif_c (fun h34_ => ?_) (fun h34_ => ?_)
      · refine (Q_iconst (v := 0) zm_53 (Or.inl (by decide)) D53_153 (by decide)).trans ?_
        exact Q_calls (as := [.int (0 : Int32)]) (rest := []) zm_53 (Or.inl (by decide)) D53_154 zc_6_48 rfl (by decide) (by simp [zcat, Value.category]) zm_52 rfl
      · refine (Q_iconst (v := 1) zm_53 (Or.inl (by decide)) D53_149 (by decide)).trans ?_
        refine (Q_goto (tgt := 154) zm_53 (Or.inl (by decide)) D53_150 (by decide)).trans ?_
        exact Q_calls (as := [.int (1 : Int32)]) (rest := []) zm_53 (Or.inl (by decide)) D53_154 zc_6_48 rfl (by decide) (by simp [zcat, Value.category]) zm_52 rfl
  rw [if_neg h32_]
  refine (Q_tsw (tgt := 268) zm_53 (Or.inl (by decide)) D53_1 (zsw_out (n := 25) (by decide) (fun q hq => ?_)) (by decide)).trans ?_
  · rcases (show q = 0 ∨ q = 1 ∨ q = 2 ∨ q = 3 ∨ q = 4 ∨ q = 5 ∨ q = 6 ∨ q = 7 ∨ q = 8 ∨ q = 9 ∨ q = 10 ∨ q = 11 ∨ q = 12 ∨ q = 13 ∨ q = 14 ∨ q = 15 ∨ q = 16 ∨ q = 17 ∨ q = 18 ∨ q = 19 ∨ q = 20 ∨ q = 21 ∨ q = 22 ∨ q = 23 ∨ q = 24 by omega) with rfl | rfl | rfl | rfl | rfl | rfl | rfl | rfl | rfl | rfl | rfl | rfl | rfl | rfl | rfl | rfl | rfl | rfl | rfl | rfl | rfl | rfl | rfl | rfl | rfl
    · exact h0_
    · exact h2_
    · exact h4_
    · exact h6_
    · exact h8_
    · exact h10_
    · exact h12_
    · exact h13_
    · exact h14_
    · exact h15_
    · exact h16_
    · exact h17_
    · exact h18_
    · exact h19_
    · exact h20_
    · exact h21_
    · exact h22_
    · exact h23_
    · exact h24_
    · exact h25_
    · exact h26_
    · exact h27_
    · exact h28_
    · exact h29_
    · exact h32_
  rfl

theorem b53_172 {d : Nat} {i0 : Int32} {j1 : Int64} {j3 : Int64} {t0 : Int64} {ia : Nat → Nat → Int32} {la : Nat → Nat → Int64} {pl dr : Nat} {cp : Option Nat} {cw : Option Nat} {rp : Option Nat} {K : Option Value → zHP → Prop}  : zWP d 53 172 [some (.int i0), some (.long j1), none, some (.long j3), none] [.long t0] (ia, la, zRA pl dr cp cw rp) K = K (some (.long t0)) (ia, la, zRA pl dr cp cw rp) := by
  exact Q_lreturn zm_53 (Or.inl (by decide)) D53_172 rfl

theorem b53_187 {d : Nat} {i0 : Int32} {j1 : Int64} {j3 : Int64} {t0 : Int64} {ia : Nat → Nat → Int32} {la : Nat → Nat → Int64} {pl dr : Nat} {cp : Option Nat} {cw : Option Nat} {rp : Option Nat} {K : Option Value → zHP → Prop}  : zWP d 53 187 [some (.int i0), some (.long j1), none, some (.long j3), none] [.long t0] (ia, la, zRA pl dr cp cw rp) K = K (some (.long t0)) (ia, la, zRA pl dr cp cw rp) := by
  exact Q_lreturn zm_53 (Or.inl (by decide)) D53_187 rfl

theorem b53_202 {d : Nat} {i0 : Int32} {j1 : Int64} {j3 : Int64} {t0 : Int64} {ia : Nat → Nat → Int32} {la : Nat → Nat → Int64} {pl dr : Nat} {cp : Option Nat} {cw : Option Nat} {rp : Option Nat} {K : Option Value → zHP → Prop}  : zWP d 53 202 [some (.int i0), some (.long j1), none, some (.long j3), none] [.long t0] (ia, la, zRA pl dr cp cw rp) K = K (some (.long t0)) (ia, la, zRA pl dr cp cw rp) := by
  exact Q_lreturn zm_53 (Or.inl (by decide)) D53_202 rfl

theorem b53_217 {d : Nat} {i0 : Int32} {j1 : Int64} {j3 : Int64} {t0 : Int64} {ia : Nat → Nat → Int32} {la : Nat → Nat → Int64} {pl dr : Nat} {cp : Option Nat} {cw : Option Nat} {rp : Option Nat} {K : Option Value → zHP → Prop}  : zWP d 53 217 [some (.int i0), some (.long j1), none, some (.long j3), none] [.long t0] (ia, la, zRA pl dr cp cw rp) K = K (some (.long t0)) (ia, la, zRA pl dr cp cw rp) := by
  exact Q_lreturn zm_53 (Or.inl (by decide)) D53_217 rfl

theorem b53_232 {d : Nat} {i0 : Int32} {j1 : Int64} {j3 : Int64} {t0 : Int64} {ia : Nat → Nat → Int32} {la : Nat → Nat → Int64} {pl dr : Nat} {cp : Option Nat} {cw : Option Nat} {rp : Option Nat} {K : Option Value → zHP → Prop}  : zWP d 53 232 [some (.int i0), some (.long j1), none, some (.long j3), none] [.long t0] (ia, la, zRA pl dr cp cw rp) K = K (some (.long t0)) (ia, la, zRA pl dr cp cw rp) := by
  exact Q_lreturn zm_53 (Or.inl (by decide)) D53_232 rfl

theorem b53_247 {d : Nat} {i0 : Int32} {j1 : Int64} {j3 : Int64} {t0 : Int64} {ia : Nat → Nat → Int32} {la : Nat → Nat → Int64} {pl dr : Nat} {cp : Option Nat} {cw : Option Nat} {rp : Option Nat} {K : Option Value → zHP → Prop}  : zWP d 53 247 [some (.int i0), some (.long j1), none, some (.long j3), none] [.long t0] (ia, la, zRA pl dr cp cw rp) K = K (some (.long t0)) (ia, la, zRA pl dr cp cw rp) := by
  exact Q_lreturn zm_53 (Or.inl (by decide)) D53_247 rfl

theorem b53_254 {d : Nat} {i0 : Int32} {j1 : Int64} {j3 : Int64} {t0 : Int64} {ia : Nat → Nat → Int32} {la : Nat → Nat → Int64} {pl dr : Nat} {cp : Option Nat} {cw : Option Nat} {rp : Option Nat} {K : Option Value → zHP → Prop}  : zWP d 53 254 [some (.int i0), some (.long j1), none, some (.long j3), none] [.long t0] (ia, la, zRA pl dr cp cw rp) K = K (some (.long t0)) (ia, la, zRA pl dr cp cw rp) := by
  exact Q_lreturn zm_53 (Or.inl (by decide)) D53_254 rfl

theorem b53_261 {d : Nat} {i0 : Int32} {j1 : Int64} {j3 : Int64} {t0 : Int64} {ia : Nat → Nat → Int32} {la : Nat → Nat → Int64} {pl dr : Nat} {cp : Option Nat} {cw : Option Nat} {rp : Option Nat} {K : Option Value → zHP → Prop}  : zWP d 53 261 [some (.int i0), some (.long j1), none, some (.long j3), none] [.long t0] (ia, la, zRA pl dr cp cw rp) K = K (some (.long t0)) (ia, la, zRA pl dr cp cw rp) := by
  exact Q_lreturn zm_53 (Or.inl (by decide)) D53_261 rfl

theorem b53_267 {d : Nat} {i0 : Int32} {j1 : Int64} {j3 : Int64} {t0 : Int64} {ia : Nat → Nat → Int32} {la : Nat → Nat → Int64} {pl dr : Nat} {cp : Option Nat} {cw : Option Nat} {rp : Option Nat} {K : Option Value → zHP → Prop}  : zWP d 53 267 [some (.int i0), some (.long j1), none, some (.long j3), none] [.long t0] (ia, la, zRA pl dr cp cw rp) K = K (some (.long t0)) (ia, la, zRA pl dr cp cw rp) := by
  exact Q_lreturn zm_53 (Or.inl (by decide)) D53_267 rfl

theorem b53_268 {d : Nat} {i0 : Int32} {j1 : Int64} {j3 : Int64} {ia : Nat → Nat → Int32} {la : Nat → Nat → Int64} {pl dr : Nat} {cp : Option Nat} {cw : Option Nat} {rp : Option Nat} {K : Option Value → zHP → Prop}  : zWP d 53 268 [some (.int i0), some (.long j1), none, some (.long j3), none] [] (ia, la, zRA pl dr cp cw rp) K = (if ¬ (lg_cmp j3 (0 : Int64)) = 0 then (¬ j3 = 0 ∧ K (some (.long (j1 / j3))) (ia, la, zRA pl dr cp cw rp)) else K (some (.long (-9223372036854775808 : Int64))) (ia, la, zRA pl dr cp cw rp)) := by
  refine (Q_lload_n zm_53 (Or.inl (by decide)) D53_268 rfl).trans ?_
  refine (Q_lconst (v := 0) zm_53 (Or.inl (by decide)) D53_269 (by decide)).trans ?_
  refine (Q_lcmp zm_53 (Or.inl (by decide)) D53_270).trans ?_
  refine (Q_if_ne (tgt := 280) zm_53 (Or.inl (by decide)) D53_271 (by decide)).trans ?_
  refine zif_c (fun h0_ => ?_) (fun h0_ => ?_)
  · refine (Q_lload_n zm_53 (Or.inl (by decide)) D53_280 rfl).trans ?_
    refine (Q_lload_n zm_53 (Or.inl (by decide)) D53_281 rfl).trans ?_
    refine (Q_ldivG zm_53 (Or.inl (by decide)) D53_282).trans ?_
    refine zand_c (fun h1_ => ?_)
    exact Q_lreturn zm_53 (Or.inl (by decide)) D53_283 rfl
  · refine (Q_ldc2_w (v := -9223372036854775808) zm_53 (Or.inl (by decide)) D53_274 (by decide +kernel)).trans ?_
    refine (Q_goto (tgt := 283) zm_53 (Or.inl (by decide)) D53_277 (by decide)).trans ?_
    exact Q_lreturn zm_53 (Or.inl (by decide)) D53_283 rfl

theorem b53_136 {d : Nat} {i0 : Int32} {j1 : Int64} {j3 : Int64} {t0 : Int64} {ia : Nat → Nat → Int32} {la : Nat → Nat → Int64} {pl dr : Nat} {cp : Option Nat} {cw : Option Nat} {rp : Option Nat} {K : Option Value → zHP → Prop}  : zWP d 53 136 [some (.int i0), some (.long j1), none, some (.long j3), none] [.long t0] (ia, la, zRA pl dr cp cw rp) K = K (some (.long t0)) (ia, la, zRA pl dr cp cw rp) := by
  exact Q_lreturn zm_53 (Or.inl (by decide)) D53_136 rfl

theorem b53_157 {d : Nat} {i0 : Int32} {j1 : Int64} {j3 : Int64} {t0 : Int64} {ia : Nat → Nat → Int32} {la : Nat → Nat → Int64} {pl dr : Nat} {cp : Option Nat} {cw : Option Nat} {rp : Option Nat} {K : Option Value → zHP → Prop}  : zWP d 53 157 [some (.int i0), some (.long j1), none, some (.long j3), none] [.long t0] (ia, la, zRA pl dr cp cw rp) K = K (some (.long t0)) (ia, la, zRA pl dr cp cw rp) := by
  exact Q_lreturn zm_53 (Or.inl (by decide)) D53_157 rfl

/-! HandsLet$Sums.within(J)J -/
theorem D54_0 : decode prog_8_method_6_code 0 = .ok (.lload_n 0, 1) := by decide +kernel
theorem D54_1 : decode prog_8_method_6_code 1 = .ok (.ldc2_w 66, 3) := by decide +kernel
theorem D54_4 : decode prog_8_method_6_code 4 = .ok (.lcmp, 1) := by decide +kernel
theorem D54_5 : decode prog_8_method_6_code 5 = .ok (.ifCond .gt 11, 3) := by decide +kernel
theorem D54_8 : decode prog_8_method_6_code 8 = .ok (.lload_n 0, 1) := by decide +kernel
theorem D54_9 : decode prog_8_method_6_code 9 = .ok (.ldc2_w 68, 3) := by decide +kernel
theorem D54_12 : decode prog_8_method_6_code 12 = .ok (.lcmp, 1) := by decide +kernel
theorem D54_13 : decode prog_8_method_6_code 13 = .ok (.ifCond .ge 9, 3) := by decide +kernel
theorem D54_16 : decode prog_8_method_6_code 16 = .ok (.ldc2_w 56, 3) := by decide +kernel
theorem D54_19 : decode prog_8_method_6_code 19 = .ok (.goto 4, 3) := by decide +kernel
theorem D54_22 : decode prog_8_method_6_code 22 = .ok (.lload_n 0, 1) := by decide +kernel
theorem D54_23 : decode prog_8_method_6_code 23 = .ok (.lreturn, 1) := by decide +kernel

theorem b54_0 {d : Nat} {j0 : Int64} {ia : Nat → Nat → Int32} {la : Nat → Nat → Int64} {pl dr : Nat} {cp : Option Nat} {cw : Option Nat} {rp : Option Nat} {K : Option Value → zHP → Prop}  : zWP d 54 0 [some (.long j0), none] [] (ia, la, zRA pl dr cp cw rp) K = (if 0 < (lg_cmp j0 (1000000000000 : Int64)) then K (some (.long (-9223372036854775808 : Int64))) (ia, la, zRA pl dr cp cw rp) else (if 0 ≤ (lg_cmp j0 (-1000000000000 : Int64)) then K (some (.long j0)) (ia, la, zRA pl dr cp cw rp) else K (some (.long (-9223372036854775808 : Int64))) (ia, la, zRA pl dr cp cw rp))) := by
  refine (Q_lload_n zm_54 (Or.inl (by decide)) D54_0 rfl).trans ?_
  refine (Q_ldc2_w (v := 1000000000000) zm_54 (Or.inl (by decide)) D54_1 (by decide +kernel)).trans ?_
  refine (Q_lcmp zm_54 (Or.inl (by decide)) D54_4).trans ?_
  refine (Q_if_gt (tgt := 16) zm_54 (Or.inl (by decide)) D54_5 (by decide)).trans ?_
  refine zif_c (fun h0_ => ?_) (fun h0_ => ?_)
  · refine (Q_ldc2_w (v := -9223372036854775808) zm_54 (Or.inl (by decide)) D54_16 (by decide +kernel)).trans ?_
    refine (Q_goto (tgt := 23) zm_54 (Or.inl (by decide)) D54_19 (by decide)).trans ?_
    exact Q_lreturn zm_54 (Or.inl (by decide)) D54_23 rfl
  · refine (Q_lload_n zm_54 (Or.inl (by decide)) D54_8 rfl).trans ?_
    refine (Q_ldc2_w (v := -1000000000000) zm_54 (Or.inl (by decide)) D54_9 (by decide +kernel)).trans ?_
    refine (Q_lcmp zm_54 (Or.inl (by decide)) D54_12).trans ?_
    refine (Q_if_ge (tgt := 22) zm_54 (Or.inl (by decide)) D54_13 (by decide)).trans ?_
    refine zif_c (fun h1_ => ?_) (fun h1_ => ?_)
    · refine (Q_lload_n zm_54 (Or.inl (by decide)) D54_22 rfl).trans ?_
      exact Q_lreturn zm_54 (Or.inl (by decide)) D54_23 rfl
    · refine (Q_ldc2_w (v := -9223372036854775808) zm_54 (Or.inl (by decide)) D54_16 (by decide +kernel)).trans ?_
      refine (Q_goto (tgt := 23) zm_54 (Or.inl (by decide)) D54_19 (by decide)).trans ?_
      exact Q_lreturn zm_54 (Or.inl (by decide)) D54_23 rfl

/-! HandsLet$Sums.product(JJ)J -/
theorem D55_0 : decode prog_8_method_7_code 0 = .ok (.lload_n 0, 1) := by decide +kernel
theorem D55_1 : decode prog_8_method_7_code 1 = .ok (.lconst 0, 1) := by decide +kernel
theorem D55_2 : decode prog_8_method_7_code 2 = .ok (.lcmp, 1) := by decide +kernel
theorem D55_3 : decode prog_8_method_7_code 3 = .ok (.ifCond .ge 8, 3) := by decide +kernel
theorem D55_6 : decode prog_8_method_7_code 6 = .ok (.lload_n 0, 1) := by decide +kernel
theorem D55_7 : decode prog_8_method_7_code 7 = .ok (.lneg, 1) := by decide +kernel
theorem D55_8 : decode prog_8_method_7_code 8 = .ok (.goto 4, 3) := by decide +kernel
theorem D55_11 : decode prog_8_method_7_code 11 = .ok (.lload_n 0, 1) := by decide +kernel
theorem D55_12 : decode prog_8_method_7_code 12 = .ok (.lstore 4, 2) := by decide +kernel
theorem D55_14 : decode prog_8_method_7_code 14 = .ok (.lload_n 2, 1) := by decide +kernel
theorem D55_15 : decode prog_8_method_7_code 15 = .ok (.lconst 0, 1) := by decide +kernel
theorem D55_16 : decode prog_8_method_7_code 16 = .ok (.lcmp, 1) := by decide +kernel
theorem D55_17 : decode prog_8_method_7_code 17 = .ok (.ifCond .ge 8, 3) := by decide +kernel
theorem D55_20 : decode prog_8_method_7_code 20 = .ok (.lload_n 2, 1) := by decide +kernel
theorem D55_21 : decode prog_8_method_7_code 21 = .ok (.lneg, 1) := by decide +kernel
theorem D55_22 : decode prog_8_method_7_code 22 = .ok (.goto 4, 3) := by decide +kernel
theorem D55_25 : decode prog_8_method_7_code 25 = .ok (.lload_n 2, 1) := by decide +kernel
theorem D55_26 : decode prog_8_method_7_code 26 = .ok (.lstore 6, 2) := by decide +kernel
theorem D55_28 : decode prog_8_method_7_code 28 = .ok (.lload 4, 2) := by decide +kernel
theorem D55_30 : decode prog_8_method_7_code 30 = .ok (.lconst 0, 1) := by decide +kernel
theorem D55_31 : decode prog_8_method_7_code 31 = .ok (.lcmp, 1) := by decide +kernel
theorem D55_32 : decode prog_8_method_7_code 32 = .ok (.ifCond .eq 21, 3) := by decide +kernel
theorem D55_35 : decode prog_8_method_7_code 35 = .ok (.lload 6, 2) := by decide +kernel
theorem D55_37 : decode prog_8_method_7_code 37 = .ok (.ldc2_w 66, 3) := by decide +kernel
theorem D55_40 : decode prog_8_method_7_code 40 = .ok (.lload 4, 2) := by decide +kernel
theorem D55_42 : decode prog_8_method_7_code 42 = .ok (.ldiv, 1) := by decide +kernel
theorem D55_43 : decode prog_8_method_7_code 43 = .ok (.lcmp, 1) := by decide +kernel
theorem D55_44 : decode prog_8_method_7_code 44 = .ok (.ifCond .le 9, 3) := by decide +kernel
theorem D55_47 : decode prog_8_method_7_code 47 = .ok (.ldc2_w 56, 3) := by decide +kernel
theorem D55_50 : decode prog_8_method_7_code 50 = .ok (.goto 6, 3) := by decide +kernel
theorem D55_53 : decode prog_8_method_7_code 53 = .ok (.lload_n 0, 1) := by decide +kernel
theorem D55_54 : decode prog_8_method_7_code 54 = .ok (.lload_n 2, 1) := by decide +kernel
theorem D55_55 : decode prog_8_method_7_code 55 = .ok (.lmul, 1) := by decide +kernel
theorem D55_56 : decode prog_8_method_7_code 56 = .ok (.lreturn, 1) := by decide +kernel

theorem b55_0 {d : Nat} {j0 : Int64} {j2 : Int64} {ia : Nat → Nat → Int32} {la : Nat → Nat → Int64} {pl dr : Nat} {cp : Option Nat} {cw : Option Nat} {rp : Option Nat} {K : Option Value → zHP → Prop}  : zWP d 55 0 [some (.long j0), none, some (.long j2), none, none, none, none, none] [] (ia, la, zRA pl dr cp cw rp) K = (if 0 ≤ (lg_cmp j0 (0 : Int64)) then zWP d 55 12 [some (.long j0), none, some (.long j2), none, none, none, none, none] [.long j0] (ia, la, zRA pl dr cp cw rp) K else zWP d 55 12 [some (.long j0), none, some (.long j2), none, none, none, none, none] [.long (-j0)] (ia, la, zRA pl dr cp cw rp) K) := by
  refine (Q_lload_n zm_55 (Or.inl (by decide)) D55_0 rfl).trans ?_
  refine (Q_lconst (v := 0) zm_55 (Or.inl (by decide)) D55_1 (by decide)).trans ?_
  refine (Q_lcmp zm_55 (Or.inl (by decide)) D55_2).trans ?_
  refine (Q_if_ge (tgt := 11) zm_55 (Or.inl (by decide)) D55_3 (by decide)).trans ?_
  refine zif_c (fun h0_ => ?_) (fun h0_ => ?_)
  · refine (Q_lload_n zm_55 (Or.inl (by decide)) D55_11 rfl).trans ?_
    rfl
  · refine (Q_lload_n zm_55 (Or.inl (by decide)) D55_6 rfl).trans ?_
    refine (Q_lneg zm_55 (Or.inl (by decide)) D55_7).trans ?_
    refine (Q_goto (tgt := 12) zm_55 (Or.inl (by decide)) D55_8 (by decide)).trans ?_
    rfl

theorem b55_12 {d : Nat} {j0 : Int64} {j2 : Int64} {t0 : Int64} {ia : Nat → Nat → Int32} {la : Nat → Nat → Int64} {pl dr : Nat} {cp : Option Nat} {cw : Option Nat} {rp : Option Nat} {K : Option Value → zHP → Prop}  : zWP d 55 12 [some (.long j0), none, some (.long j2), none, none, none, none, none] [.long t0] (ia, la, zRA pl dr cp cw rp) K = (if 0 ≤ (lg_cmp j2 (0 : Int64)) then zWP d 55 26 [some (.long j0), none, some (.long j2), none, some (.long t0), none, none, none] [.long j2] (ia, la, zRA pl dr cp cw rp) K else zWP d 55 26 [some (.long j0), none, some (.long j2), none, some (.long t0), none, none, none] [.long (-j2)] (ia, la, zRA pl dr cp cw rp) K) := by
  refine (Q_lstore (ls' := [some (.long j0), none, some (.long j2), none, some (.long t0), none, none, none]) zm_55 (Or.inl (by decide)) D55_12 rfl (Nat.le_of_ble_eq_true rfl) rfl).trans ?_
  refine (Q_lload_n zm_55 (Or.inl (by decide)) D55_14 rfl).trans ?_
  refine (Q_lconst (v := 0) zm_55 (Or.inl (by decide)) D55_15 (by decide)).trans ?_
  refine (Q_lcmp zm_55 (Or.inl (by decide)) D55_16).trans ?_
  refine (Q_if_ge (tgt := 25) zm_55 (Or.inl (by decide)) D55_17 (by decide)).trans ?_
  refine zif_c (fun h0_ => ?_) (fun h0_ => ?_)
  · refine (Q_lload_n zm_55 (Or.inl (by decide)) D55_25 rfl).trans ?_
    rfl
  · refine (Q_lload_n zm_55 (Or.inl (by decide)) D55_20 rfl).trans ?_
    refine (Q_lneg zm_55 (Or.inl (by decide)) D55_21).trans ?_
    refine (Q_goto (tgt := 26) zm_55 (Or.inl (by decide)) D55_22 (by decide)).trans ?_
    rfl

theorem b55_26 {d : Nat} {j0 : Int64} {j2 : Int64} {j4 : Int64} {t0 : Int64} {ia : Nat → Nat → Int32} {la : Nat → Nat → Int64} {pl dr : Nat} {cp : Option Nat} {cw : Option Nat} {rp : Option Nat} {K : Option Value → zHP → Prop}  : zWP d 55 26 [some (.long j0), none, some (.long j2), none, some (.long j4), none, none, none] [.long t0] (ia, la, zRA pl dr cp cw rp) K = (if (lg_cmp j4 (0 : Int64)) = 0 then K (some (.long (j0 * j2))) (ia, la, zRA pl dr cp cw rp) else (¬ j4 = 0 ∧ (if (lg_cmp t0 ((1000000000000 : Int64) / j4)) ≤ 0 then K (some (.long (j0 * j2))) (ia, la, zRA pl dr cp cw rp) else K (some (.long (-9223372036854775808 : Int64))) (ia, la, zRA pl dr cp cw rp)))) := by
  refine (Q_lstore (ls' := [some (.long j0), none, some (.long j2), none, some (.long j4), none, some (.long t0), none]) zm_55 (Or.inl (by decide)) D55_26 rfl (Nat.le_of_ble_eq_true rfl) rfl).trans ?_
  refine (Q_lload zm_55 (Or.inl (by decide)) D55_28 rfl).trans ?_
  refine (Q_lconst (v := 0) zm_55 (Or.inl (by decide)) D55_30 (by decide)).trans ?_
  refine (Q_lcmp zm_55 (Or.inl (by decide)) D55_31).trans ?_
  refine (Q_if_eq (tgt := 53) zm_55 (Or.inl (by decide)) D55_32 (by decide)).trans ?_
  refine zif_c (fun h0_ => ?_) (fun h0_ => ?_)
  · refine (Q_lload_n zm_55 (Or.inl (by decide)) D55_53 rfl).trans ?_
    refine (Q_lload_n zm_55 (Or.inl (by decide)) D55_54 rfl).trans ?_
    refine (Q_lmul zm_55 (Or.inl (by decide)) D55_55).trans ?_
    exact Q_lreturn zm_55 (Or.inl (by decide)) D55_56 rfl
  · refine (Q_lload zm_55 (Or.inl (by decide)) D55_35 rfl).trans ?_
    refine (Q_ldc2_w (v := 1000000000000) zm_55 (Or.inl (by decide)) D55_37 (by decide +kernel)).trans ?_
    refine (Q_lload zm_55 (Or.inl (by decide)) D55_40 rfl).trans ?_
    refine (Q_ldivG zm_55 (Or.inl (by decide)) D55_42).trans ?_
    refine zand_c (fun h1_ => ?_)
    refine (Q_lcmp zm_55 (Or.inl (by decide)) D55_43).trans ?_
    refine (Q_if_le (tgt := 53) zm_55 (Or.inl (by decide)) D55_44 (by decide)).trans ?_
    refine zif_c (fun h2_ => ?_) (fun h2_ => ?_)
    · refine (Q_lload_n zm_55 (Or.inl (by decide)) D55_53 rfl).trans ?_
      refine (Q_lload_n zm_55 (Or.inl (by decide)) D55_54 rfl).trans ?_
      refine (Q_lmul zm_55 (Or.inl (by decide)) D55_55).trans ?_
      exact Q_lreturn zm_55 (Or.inl (by decide)) D55_56 rfl
    · refine (Q_ldc2_w (v := -9223372036854775808) zm_55 (Or.inl (by decide)) D55_47 (by decide +kernel)).trans ?_
      refine (Q_goto (tgt := 56) zm_55 (Or.inl (by decide)) D55_50 (by decide)).trans ?_
      exact Q_lreturn zm_55 (Or.inl (by decide)) D55_56 rfl

/-! HandsLet$Tokens.packed(II)I -/
theorem D56_0 : decode prog_9_method_2_code 0 = .ok (.iload_n 0, 1) := by decide +kernel
theorem D56_1 : decode prog_9_method_2_code 1 = .ok (.bipush 97, 2) := by decide +kernel
theorem D56_3 : decode prog_9_method_2_code 3 = .ok (.isub, 1) := by decide +kernel
theorem D56_4 : decode prog_9_method_2_code 4 = .ok (.iconst 1, 1) := by decide +kernel
theorem D56_5 : decode prog_9_method_2_code 5 = .ok (.iadd, 1) := by decide +kernel
theorem D56_6 : decode prog_9_method_2_code 6 = .ok (.iconst 5, 1) := by decide +kernel
theorem D56_7 : decode prog_9_method_2_code 7 = .ok (.iconst 5, 1) := by decide +kernel
theorem D56_8 : decode prog_9_method_2_code 8 = .ok (.iload_n 1, 1) := by decide +kernel
theorem D56_9 : decode prog_9_method_2_code 9 = .ok (.isub, 1) := by decide +kernel
theorem D56_10 : decode prog_9_method_2_code 10 = .ok (.imul, 1) := by decide +kernel
theorem D56_11 : decode prog_9_method_2_code 11 = .ok (.ishl, 1) := by decide +kernel
theorem D56_12 : decode prog_9_method_2_code 12 = .ok (.ireturn, 1) := by decide +kernel

theorem b56_0 {d : Nat} {i0 : Int32} {i1 : Int32} {ia : Nat → Nat → Int32} {la : Nat → Nat → Int64} {pl dr : Nat} {cp : Option Nat} {cw : Option Nat} {rp : Option Nat} {K : Option Value → zHP → Prop}  : zWP d 56 0 [some (.int i0), some (.int i1)] [] (ia, la, zRA pl dr cp cw rp) K = K (some (.int (((i0 - (97 : Int32)) + (1 : Int32)) <<< (((5 : Int32) * ((5 : Int32) - i1)) &&& 31)))) (ia, la, zRA pl dr cp cw rp) := by
  refine (Q_iload_n zm_56 (Or.inl (by decide)) D56_0 rfl).trans ?_
  refine (Q_bipush (v := 97) zm_56 (Or.inl (by decide)) D56_1 (by decide)).trans ?_
  refine (Q_isub zm_56 (Or.inl (by decide)) D56_3).trans ?_
  refine (Q_iconst (v := 1) zm_56 (Or.inl (by decide)) D56_4 (by decide)).trans ?_
  refine (Q_iadd zm_56 (Or.inl (by decide)) D56_5).trans ?_
  refine (Q_iconst (v := 5) zm_56 (Or.inl (by decide)) D56_6 (by decide)).trans ?_
  refine (Q_iconst (v := 5) zm_56 (Or.inl (by decide)) D56_7 (by decide)).trans ?_
  refine (Q_iload_n zm_56 (Or.inl (by decide)) D56_8 rfl).trans ?_
  refine (Q_isub zm_56 (Or.inl (by decide)) D56_9).trans ?_
  refine (Q_imul zm_56 (Or.inl (by decide)) D56_10).trans ?_
  refine (Q_ishl zm_56 (Or.inl (by decide)) D56_11).trans ?_
  exact Q_ireturn zm_56 (Or.inl (by decide)) D56_12 rfl

/-! HandsLet$Tokens.put(I)V -/
theorem D57_0 : decode prog_9_method_3_code 0 = .ok (.bipush 24, 2) := by decide +kernel
theorem D57_2 : decode prog_9_method_3_code 2 = .ok (.istore_n 2, 1) := by decide +kernel
theorem D57_3 : decode prog_9_method_3_code 3 = .ok (.iload_n 2, 1) := by decide +kernel
theorem D57_4 : decode prog_9_method_3_code 4 = .ok (.ifCond .lt 42, 3) := by decide +kernel
theorem D57_7 : decode prog_9_method_3_code 7 = .ok (.aload_n 0, 1) := by decide +kernel
theorem D57_8 : decode prog_9_method_3_code 8 = .ok (.getfield 35, 3) := by decide +kernel
theorem D57_11 : decode prog_9_method_3_code 11 = .ok (.sipush 700, 3) := by decide +kernel
theorem D57_14 : decode prog_9_method_3_code 14 = .ok (.if_icmp .ge 32, 3) := by decide +kernel
theorem D57_17 : decode prog_9_method_3_code 17 = .ok (.aload_n 0, 1) := by decide +kernel
theorem D57_18 : decode prog_9_method_3_code 18 = .ok (.getfield 9, 3) := by decide +kernel
theorem D57_21 : decode prog_9_method_3_code 21 = .ok (.aload_n 0, 1) := by decide +kernel
theorem D57_22 : decode prog_9_method_3_code 22 = .ok (.getfield 35, 3) := by decide +kernel
theorem D57_25 : decode prog_9_method_3_code 25 = .ok (.iload_n 1, 1) := by decide +kernel
theorem D57_26 : decode prog_9_method_3_code 26 = .ok (.iload_n 2, 1) := by decide +kernel
theorem D57_27 : decode prog_9_method_3_code 27 = .ok (.ishr, 1) := by decide +kernel
theorem D57_28 : decode prog_9_method_3_code 28 = .ok (.i2b, 1) := by decide +kernel
theorem D57_29 : decode prog_9_method_3_code 29 = .ok (.bastore, 1) := by decide +kernel
theorem D57_30 : decode prog_9_method_3_code 30 = .ok (.aload_n 0, 1) := by decide +kernel
theorem D57_31 : decode prog_9_method_3_code 31 = .ok (.dup, 1) := by decide +kernel
theorem D57_32 : decode prog_9_method_3_code 32 = .ok (.getfield 35, 3) := by decide +kernel
theorem D57_35 : decode prog_9_method_3_code 35 = .ok (.iconst 1, 1) := by decide +kernel
theorem D57_36 : decode prog_9_method_3_code 36 = .ok (.iadd, 1) := by decide +kernel
theorem D57_37 : decode prog_9_method_3_code 37 = .ok (.putfield 35, 3) := by decide +kernel
theorem D57_40 : decode prog_9_method_3_code 40 = .ok (.iinc 2 (-8), 3) := by decide +kernel
theorem D57_43 : decode prog_9_method_3_code 43 = .ok (.goto (-40), 3) := by decide +kernel
theorem D57_46 : decode prog_9_method_3_code 46 = .ok (.return_, 1) := by decide +kernel

theorem b57_0 {d : Nat} {i1 : Int32} {ia : Nat → Nat → Int32} {la : Nat → Nat → Int64} {pl dr : Nat} {cp : Option Nat} {cw : Option Nat} {rp : Option Nat} {K : Option Value → zHP → Prop}  : zWP d 57 0 [some (.ref 2), some (.int i1), none] [] (ia, la, zRA pl dr cp cw rp) K = zWP d 57 3 [some (.ref 2), some (.int i1), some (.int (24 : Int32))] [] (ia, la, zRA pl dr cp cw rp) K := by
  refine (Q_bipush (v := 24) zm_57 (Or.inl (by decide)) D57_0 (by decide)).trans ?_
  refine (Q_istore_n (ls' := [some (.ref 2), some (.int i1), some (.int (24 : Int32))]) zm_57 (Or.inl (by decide)) D57_2 rfl (Nat.le_of_ble_eq_true rfl) rfl).trans ?_
  rfl

theorem b57_3 {d : Nat} {i1 : Int32} {i2 : Int32} {ia : Nat → Nat → Int32} {la : Nat → Nat → Int64} {pl dr : Nat} {cp : Option Nat} {cw : Option Nat} {rp : Option Nat} {K : Option Value → zHP → Prop}  : zWP d 57 3 [some (.ref 2), some (.int i1), some (.int i2)] [] (ia, la, zRA pl dr cp cw rp) K = (if i2 < 0 then K none (ia, la, zRA pl dr cp cw rp) else (if (700 : Int32) ≤ (ia 2 1) then K none (ia, la, zRA pl dr cp cw rp) else (vp_in (ia 2 1) 700 ∧ zWP d 57 3 [some (.ref 2), some (.int i1), some (.int (i2 + (-8 : Int32)))] [] ((zu (zu ia 3 ((ia 2 1)).toNatClampNeg (vp_nar .byte ((i1 >>> (i2 &&& 31))).toInt8.toInt32)) 2 1 (((zu ia 3 ((ia 2 1)).toNatClampNeg (vp_nar .byte ((i1 >>> (i2 &&& 31))).toInt8.toInt32)) 2 1) + (1 : Int32))), la, zRA pl dr cp cw rp) K))) := by
  refine (Q_iload_n zm_57 (Or.inl (by decide)) D57_3 rfl).trans ?_
  refine (Q_if_lt (tgt := 46) zm_57 (Or.inl (by decide)) D57_4 (by decide)).trans ?_
  refine zif_c (fun h0_ => ?_) (fun h0_ => ?_)
  · exact Q_return zm_57 (Or.inl (by decide)) D57_46 rfl
  · refine (Q_aload_n zm_57 (Or.inl (by decide)) D57_7 rfl).trans ?_
    refine (Q_getI zm_57 (Or.inl (by decide)) D57_8 zf_7_35 (Or.inl zs_7_1) zk_2.1).trans ?_
    refine (Q_sipush (v := 700) zm_57 (Or.inl (by decide)) D57_11 (by decide)).trans ?_
    refine (Q_ic_ge (tgt := 46) zm_57 (Or.inl (by decide)) D57_14 (by decide)).trans ?_
    refine zif_c (fun h1_ => ?_) (fun h1_ => ?_)
    · exact Q_return zm_57 (Or.inl (by decide)) D57_46 rfl
    · refine (Q_aload_n zm_57 (Or.inl (by decide)) D57_17 rfl).trans ?_
      refine (Q_getR (q := 3) zm_57 (Or.inl (by decide)) D57_18 zf_7_9 zs_7_0 zk_2.1 rfl).trans ?_
      refine (Q_aload_n zm_57 (Or.inl (by decide)) D57_21 rfl).trans ?_
      refine (Q_getI zm_57 (Or.inl (by decide)) D57_22 zf_7_35 (Or.inl zs_7_1) zk_2.1).trans ?_
      refine (Q_iload_n zm_57 (Or.inl (by decide)) D57_25 rfl).trans ?_
      refine (Q_iload_n zm_57 (Or.inl (by decide)) D57_26 rfl).trans ?_
      refine (Q_ishr zm_57 (Or.inl (by decide)) D57_27).trans ?_
      refine (Q_i2b zm_57 (Or.inl (by decide)) D57_28).trans ?_
      refine (Q_bastore zm_57 (Or.inl (by decide)) D57_29 zk_3.1 zk_3.2).trans ?_
      refine zand_c (fun h2_ => ?_)
      refine (Q_aload_n zm_57 (Or.inl (by decide)) D57_30 rfl).trans ?_
      refine (Q_dup zm_57 (Or.inl (by decide)) D57_31 rfl).trans ?_
      refine (Q_getI zm_57 (Or.inl (by decide)) D57_32 zf_7_35 (Or.inl zs_7_1) zk_2.1).trans ?_
      refine (Q_iconst (v := 1) zm_57 (Or.inl (by decide)) D57_35 (by decide)).trans ?_
      refine (Q_iadd zm_57 (Or.inl (by decide)) D57_36).trans ?_
      refine (Q_putI zm_57 (Or.inl (by decide)) D57_37 zf_7_35 zs_7_1 rfl zk_2.1).trans ?_
      refine (Q_iinc (v := -8) (ls' := [some (.ref 2), some (.int i1), some (.int (i2 + (-8 : Int32)))]) zm_57 (Or.inl (by decide)) D57_40 rfl rfl (by decide) rfl).trans ?_
      refine (Q_goto (tgt := 3) zm_57 (Or.inl (by decide)) D57_43 (by decide)).trans ?_
      rfl

/-! HandsLet$Tokens.start(I)V -/
theorem D58_0 : decode prog_9_method_4_code 0 = .ok (.aload_n 0, 1) := by decide +kernel
theorem D58_1 : decode prog_9_method_4_code 1 = .ok (.iload_n 1, 1) := by decide +kernel
theorem D58_2 : decode prog_9_method_4_code 2 = .ok (.aload_n 0, 1) := by decide +kernel
theorem D58_3 : decode prog_9_method_4_code 3 = .ok (.getfield 35, 3) := by decide +kernel
theorem D58_6 : decode prog_9_method_4_code 6 = .ok (.invokestatic 39, 3) := by decide +kernel
theorem D58_9 : decode prog_9_method_4_code 9 = .ok (.putfield 44, 3) := by decide +kernel
theorem D58_12 : decode prog_9_method_4_code 12 = .ok (.aload_n 0, 1) := by decide +kernel
theorem D58_13 : decode prog_9_method_4_code 13 = .ok (.iconst 0, 1) := by decide +kernel
theorem D58_14 : decode prog_9_method_4_code 14 = .ok (.putfield 35, 3) := by decide +kernel
theorem D58_17 : decode prog_9_method_4_code 17 = .ok (.aload_n 0, 1) := by decide +kernel
theorem D58_18 : decode prog_9_method_4_code 18 = .ok (.iconst 0, 1) := by decide +kernel
theorem D58_19 : decode prog_9_method_4_code 19 = .ok (.putfield 46, 3) := by decide +kernel
theorem D58_22 : decode prog_9_method_4_code 22 = .ok (.aload_n 0, 1) := by decide +kernel
theorem D58_23 : decode prog_9_method_4_code 23 = .ok (.invokevirtual 49, 3) := by decide +kernel
theorem D58_26 : decode prog_9_method_4_code 26 = .ok (.return_, 1) := by decide +kernel

theorem b58_0 {d : Nat} {i1 : Int32} {ia : Nat → Nat → Int32} {la : Nat → Nat → Int64} {pl dr : Nat} {cp : Option Nat} {cw : Option Nat} {rp : Option Nat} {K : Option Value → zHP → Prop}  : zWP (d + 5) 58 0 [some (.ref 2), some (.int i1)] [] (ia, la, zRA pl dr cp cw rp) K = zWM (d + 4) 59 [.ref 2] ((zu (zu (zu ia 2 3 (if (ia 2 1) < i1 then (ia 2 1) else i1)) 2 1 (0 : Int32)) 2 4 (0 : Int32)), la, zRA pl dr cp cw rp) (zK (d + 5) 58 26 [some (.ref 2), some (.int i1)] [] K) := by
  refine (Q_aload_n zm_58 (Or.inl (by decide)) D58_0 rfl).trans ?_
  refine (Q_iload_n zm_58 (Or.inl (by decide)) D58_1 rfl).trans ?_
  refine (Q_aload_n zm_58 (Or.inl (by decide)) D58_2 rfl).trans ?_
  refine (Q_getI zm_58 (Or.inl (by decide)) D58_3 zf_7_35 (Or.inl zs_7_1) zk_2.1).trans ?_
  refine (Q_bis (as := [.int i1, .int (ia 2 1)]) (rest := [.ref 2]) zm_58 (Or.inl (by decide)) D58_6 zc_7_39 rfl (by decide) (by simp [zcat, Value.category]) rfl).trans ?_
  refine (Q_putI zm_58 (Or.inl (by decide)) D58_9 zf_7_44 zs_7_3 rfl zk_2.1).trans ?_
  refine (Q_aload_n zm_58 (Or.inl (by decide)) D58_12 rfl).trans ?_
  refine (Q_iconst (v := 0) zm_58 (Or.inl (by decide)) D58_13 (by decide)).trans ?_
  refine (Q_putI zm_58 (Or.inl (by decide)) D58_14 zf_7_35 zs_7_1 rfl zk_2.1).trans ?_
  refine (Q_aload_n zm_58 (Or.inl (by decide)) D58_17 rfl).trans ?_
  refine (Q_iconst (v := 0) zm_58 (Or.inl (by decide)) D58_18 (by decide)).trans ?_
  refine (Q_putI zm_58 (Or.inl (by decide)) D58_19 zf_7_46 zs_7_4 rfl zk_2.1).trans ?_
  refine (Q_aload_n zm_58 (Or.inl (by decide)) D58_22 rfl).trans ?_
  exact Q_callv (as := []) (b := 2) (rest := []) zm_58 (Or.inl (by decide)) D58_23 zc_7_49 rfl zk_2.1 (by decide) (by decide +kernel) (by decide) (by simp [zcat, Value.category]) zm_59 rfl

theorem b58_26 {d : Nat} {i1 : Int32} {ia : Nat → Nat → Int32} {la : Nat → Nat → Int64} {pl dr : Nat} {cp : Option Nat} {cw : Option Nat} {rp : Option Nat} {K : Option Value → zHP → Prop}  : zWP d 58 26 [some (.ref 2), some (.int i1)] [] (ia, la, zRA pl dr cp cw rp) K = K none (ia, la, zRA pl dr cp cw rp) := by
  exact Q_return zm_58 (Or.inl (by decide)) D58_26 rfl

/-! HandsLet$Tokens.advance()V -/
theorem D59_0 : decode prog_9_method_5_code 0 = .ok (.aload_n 0, 1) := by decide +kernel
theorem D59_1 : decode prog_9_method_5_code 1 = .ok (.getfield 46, 3) := by decide +kernel
theorem D59_4 : decode prog_9_method_5_code 4 = .ok (.aload_n 0, 1) := by decide +kernel
theorem D59_5 : decode prog_9_method_5_code 5 = .ok (.getfield 44, 3) := by decide +kernel
theorem D59_8 : decode prog_9_method_5_code 8 = .ok (.if_icmp .ge 44, 3) := by decide +kernel
theorem D59_11 : decode prog_9_method_5_code 11 = .ok (.aload_n 0, 1) := by decide +kernel
theorem D59_12 : decode prog_9_method_5_code 12 = .ok (.getfield 9, 3) := by decide +kernel
theorem D59_15 : decode prog_9_method_5_code 15 = .ok (.aload_n 0, 1) := by decide +kernel
theorem D59_16 : decode prog_9_method_5_code 16 = .ok (.getfield 46, 3) := by decide +kernel
theorem D59_19 : decode prog_9_method_5_code 19 = .ok (.baload, 1) := by decide +kernel
theorem D59_20 : decode prog_9_method_5_code 20 = .ok (.bipush 10, 2) := by decide +kernel
theorem D59_22 : decode prog_9_method_5_code 22 = .ok (.if_icmp .eq 17, 3) := by decide +kernel
theorem D59_25 : decode prog_9_method_5_code 25 = .ok (.aload_n 0, 1) := by decide +kernel
theorem D59_26 : decode prog_9_method_5_code 26 = .ok (.getfield 9, 3) := by decide +kernel
theorem D59_29 : decode prog_9_method_5_code 29 = .ok (.aload_n 0, 1) := by decide +kernel
theorem D59_30 : decode prog_9_method_5_code 30 = .ok (.getfield 46, 3) := by decide +kernel
theorem D59_33 : decode prog_9_method_5_code 33 = .ok (.baload, 1) := by decide +kernel
theorem D59_34 : decode prog_9_method_5_code 34 = .ok (.bipush 32, 2) := by decide +kernel
theorem D59_36 : decode prog_9_method_5_code 36 = .ok (.if_icmp .ne 16, 3) := by decide +kernel
theorem D59_39 : decode prog_9_method_5_code 39 = .ok (.aload_n 0, 1) := by decide +kernel
theorem D59_40 : decode prog_9_method_5_code 40 = .ok (.dup, 1) := by decide +kernel
theorem D59_41 : decode prog_9_method_5_code 41 = .ok (.getfield 46, 3) := by decide +kernel
theorem D59_44 : decode prog_9_method_5_code 44 = .ok (.iconst 1, 1) := by decide +kernel
theorem D59_45 : decode prog_9_method_5_code 45 = .ok (.iadd, 1) := by decide +kernel
theorem D59_46 : decode prog_9_method_5_code 46 = .ok (.putfield 46, 3) := by decide +kernel
theorem D59_49 : decode prog_9_method_5_code 49 = .ok (.goto (-49), 3) := by decide +kernel
theorem D59_52 : decode prog_9_method_5_code 52 = .ok (.aload_n 0, 1) := by decide +kernel
theorem D59_53 : decode prog_9_method_5_code 53 = .ok (.aload_n 0, 1) := by decide +kernel
theorem D59_54 : decode prog_9_method_5_code 54 = .ok (.getfield 46, 3) := by decide +kernel
theorem D59_57 : decode prog_9_method_5_code 57 = .ok (.putfield 52, 3) := by decide +kernel
theorem D59_60 : decode prog_9_method_5_code 60 = .ok (.aload_n 0, 1) := by decide +kernel
theorem D59_61 : decode prog_9_method_5_code 61 = .ok (.iconst 0, 1) := by decide +kernel
theorem D59_62 : decode prog_9_method_5_code 62 = .ok (.putfield 55, 3) := by decide +kernel
theorem D59_65 : decode prog_9_method_5_code 65 = .ok (.aload_n 0, 1) := by decide +kernel
theorem D59_66 : decode prog_9_method_5_code 66 = .ok (.getfield 46, 3) := by decide +kernel
theorem D59_69 : decode prog_9_method_5_code 69 = .ok (.aload_n 0, 1) := by decide +kernel
theorem D59_70 : decode prog_9_method_5_code 70 = .ok (.getfield 44, 3) := by decide +kernel
theorem D59_73 : decode prog_9_method_5_code 73 = .ok (.if_icmp .lt 11, 3) := by decide +kernel
theorem D59_76 : decode prog_9_method_5_code 76 = .ok (.aload_n 0, 1) := by decide +kernel
theorem D59_77 : decode prog_9_method_5_code 77 = .ok (.iconst 0, 1) := by decide +kernel
theorem D59_78 : decode prog_9_method_5_code 78 = .ok (.putfield 58, 3) := by decide +kernel
theorem D59_81 : decode prog_9_method_5_code 81 = .ok (.goto 51, 3) := by decide +kernel
theorem D59_84 : decode prog_9_method_5_code 84 = .ok (.aload_n 0, 1) := by decide +kernel
theorem D59_85 : decode prog_9_method_5_code 85 = .ok (.getfield 9, 3) := by decide +kernel
theorem D59_88 : decode prog_9_method_5_code 88 = .ok (.aload_n 0, 1) := by decide +kernel
theorem D59_89 : decode prog_9_method_5_code 89 = .ok (.getfield 46, 3) := by decide +kernel
theorem D59_92 : decode prog_9_method_5_code 92 = .ok (.baload, 1) := by decide +kernel
theorem D59_93 : decode prog_9_method_5_code 93 = .ok (.invokestatic 61, 3) := by decide +kernel
theorem D59_96 : decode prog_9_method_5_code 96 = .ok (.ifCond .eq 10, 3) := by decide +kernel
theorem D59_99 : decode prog_9_method_5_code 99 = .ok (.aload_n 0, 1) := by decide +kernel
theorem D59_100 : decode prog_9_method_5_code 100 = .ok (.invokevirtual 65, 3) := by decide +kernel
theorem D59_103 : decode prog_9_method_5_code 103 = .ok (.goto 29, 3) := by decide +kernel
theorem D59_106 : decode prog_9_method_5_code 106 = .ok (.aload_n 0, 1) := by decide +kernel
theorem D59_107 : decode prog_9_method_5_code 107 = .ok (.getfield 9, 3) := by decide +kernel
theorem D59_110 : decode prog_9_method_5_code 110 = .ok (.aload_n 0, 1) := by decide +kernel
theorem D59_111 : decode prog_9_method_5_code 111 = .ok (.getfield 46, 3) := by decide +kernel
theorem D59_114 : decode prog_9_method_5_code 114 = .ok (.baload, 1) := by decide +kernel
theorem D59_115 : decode prog_9_method_5_code 115 = .ok (.invokestatic 68, 3) := by decide +kernel
theorem D59_118 : decode prog_9_method_5_code 118 = .ok (.ifCond .eq 10, 3) := by decide +kernel
theorem D59_121 : decode prog_9_method_5_code 121 = .ok (.aload_n 0, 1) := by decide +kernel
theorem D59_122 : decode prog_9_method_5_code 122 = .ok (.invokevirtual 71, 3) := by decide +kernel
theorem D59_125 : decode prog_9_method_5_code 125 = .ok (.goto 7, 3) := by decide +kernel
theorem D59_128 : decode prog_9_method_5_code 128 = .ok (.aload_n 0, 1) := by decide +kernel
theorem D59_129 : decode prog_9_method_5_code 129 = .ok (.invokevirtual 74, 3) := by decide +kernel
theorem D59_132 : decode prog_9_method_5_code 132 = .ok (.return_, 1) := by decide +kernel

theorem b59_0 {d : Nat}  {ia : Nat → Nat → Int32} {la : Nat → Nat → Int64} {pl dr : Nat} {cp : Option Nat} {cw : Option Nat} {rp : Option Nat} {K : Option Value → zHP → Prop}  : zWP d 59 0 [some (.ref 2)] [] (ia, la, zRA pl dr cp cw rp) K = (if (ia 2 3) ≤ (ia 2 4) then zWP d 59 52 [some (.ref 2)] [] (ia, la, zRA pl dr cp cw rp) K else (vp_in (ia 2 4) 700 ∧ (if (ia 3 ((ia 2 4)).toNatClampNeg) = (10 : Int32) then zWP d 59 0 [some (.ref 2)] [] ((zu ia 2 4 ((ia 2 4) + (1 : Int32))), la, zRA pl dr cp cw rp) K else (if ¬ (ia 3 ((ia 2 4)).toNatClampNeg) = (32 : Int32) then zWP d 59 52 [some (.ref 2)] [] (ia, la, zRA pl dr cp cw rp) K else zWP d 59 0 [some (.ref 2)] [] ((zu ia 2 4 ((ia 2 4) + (1 : Int32))), la, zRA pl dr cp cw rp) K)))) := by
  refine (Q_aload_n zm_59 (Or.inl (by decide)) D59_0 rfl).trans ?_
  refine (Q_getI zm_59 (Or.inl (by decide)) D59_1 zf_7_46 (Or.inl zs_7_4) zk_2.1).trans ?_
  refine (Q_aload_n zm_59 (Or.inl (by decide)) D59_4 rfl).trans ?_
  refine (Q_getI zm_59 (Or.inl (by decide)) D59_5 zf_7_44 (Or.inl zs_7_3) zk_2.1).trans ?_
  refine (Q_ic_ge (tgt := 52) zm_59 (Or.inl (by decide)) D59_8 (by decide)).trans ?_
  refine zif_c (fun h0_ => ?_) (fun h0_ => ?_)
  · rfl
  · refine (Q_aload_n zm_59 (Or.inl (by decide)) D59_11 rfl).trans ?_
    refine (Q_getR (q := 3) zm_59 (Or.inl (by decide)) D59_12 zf_7_9 zs_7_0 zk_2.1 rfl).trans ?_
    refine (Q_aload_n zm_59 (Or.inl (by decide)) D59_15 rfl).trans ?_
    refine (Q_getI zm_59 (Or.inl (by decide)) D59_16 zf_7_46 (Or.inl zs_7_4) zk_2.1).trans ?_
    refine (Q_baload zm_59 (Or.inl (by decide)) D59_19 zk_3.1 (by decide) zk_3.2).trans ?_
    refine zand_c (fun h1_ => ?_)
    refine (Q_bipush (v := 10) zm_59 (Or.inl (by decide)) D59_20 (by decide)).trans ?_
    refine (Q_ic_eq (tgt := 39) zm_59 (Or.inl (by decide)) D59_22 (by decide)).trans ?_
    refine zif_c (fun h2_ => ?_) (fun h2_ => ?_)
    · refine (Q_aload_n zm_59 (Or.inl (by decide)) D59_39 rfl).trans ?_
      refine (Q_dup zm_59 (Or.inl (by decide)) D59_40 rfl).trans ?_
      refine (Q_getI zm_59 (Or.inl (by decide)) D59_41 zf_7_46 (Or.inl zs_7_4) zk_2.1).trans ?_
      refine (Q_iconst (v := 1) zm_59 (Or.inl (by decide)) D59_44 (by decide)).trans ?_
      refine (Q_iadd zm_59 (Or.inl (by decide)) D59_45).trans ?_
      refine (Q_putI zm_59 (Or.inl (by decide)) D59_46 zf_7_46 zs_7_4 rfl zk_2.1).trans ?_
      refine (Q_goto (tgt := 0) zm_59 (Or.inl (by decide)) D59_49 (by decide)).trans ?_
      rfl
    · refine (Q_aload_n zm_59 (Or.inl (by decide)) D59_25 rfl).trans ?_
      refine (Q_getR (q := 3) zm_59 (Or.inl (by decide)) D59_26 zf_7_9 zs_7_0 zk_2.1 rfl).trans ?_
      refine (Q_aload_n zm_59 (Or.inl (by decide)) D59_29 rfl).trans ?_
      refine (Q_getI zm_59 (Or.inl (by decide)) D59_30 zf_7_46 (Or.inl zs_7_4) zk_2.1).trans ?_
      refine ((Q_baload zm_59 (Or.inl (by decide)) D59_33 zk_3.1 (by decide) zk_3.2).trans (zdrop h1_)).trans ?_
      refine (Q_bipush (v := 32) zm_59 (Or.inl (by decide)) D59_34 (by decide)).trans ?_
      refine (Q_ic_ne (tgt := 52) zm_59 (Or.inl (by decide)) D59_36 (by decide)).trans ?_
      refine zif_c (fun h3_ => ?_) (fun h3_ => ?_)
      · rfl
      · refine (Q_aload_n zm_59 (Or.inl (by decide)) D59_39 rfl).trans ?_
        refine (Q_dup zm_59 (Or.inl (by decide)) D59_40 rfl).trans ?_
        refine (Q_getI zm_59 (Or.inl (by decide)) D59_41 zf_7_46 (Or.inl zs_7_4) zk_2.1).trans ?_
        refine (Q_iconst (v := 1) zm_59 (Or.inl (by decide)) D59_44 (by decide)).trans ?_
        refine (Q_iadd zm_59 (Or.inl (by decide)) D59_45).trans ?_
        refine (Q_putI zm_59 (Or.inl (by decide)) D59_46 zf_7_46 zs_7_4 rfl zk_2.1).trans ?_
        refine (Q_goto (tgt := 0) zm_59 (Or.inl (by decide)) D59_49 (by decide)).trans ?_
        rfl

theorem b59_52 {d : Nat}  {ia : Nat → Nat → Int32} {la : Nat → Nat → Int64} {pl dr : Nat} {cp : Option Nat} {cw : Option Nat} {rp : Option Nat} {K : Option Value → zHP → Prop}  : zWP (d + 1) 59 52 [some (.ref 2)] [] (ia, la, zRA pl dr cp cw rp) K = (if ((zu (zu ia 2 6 (ia 2 4)) 2 7 (0 : Int32)) 2 4) < ((zu (zu ia 2 6 (ia 2 4)) 2 7 (0 : Int32)) 2 3) then (vp_in ((zu (zu ia 2 6 (ia 2 4)) 2 7 (0 : Int32)) 2 4) 700 ∧ zWM d 60 [.int ((zu (zu ia 2 6 (ia 2 4)) 2 7 (0 : Int32)) 3 (((zu (zu ia 2 6 (ia 2 4)) 2 7 (0 : Int32)) 2 4)).toNatClampNeg)] ((zu (zu ia 2 6 (ia 2 4)) 2 7 (0 : Int32)), la, zRA pl dr cp cw rp) (zK (d + 1) 59 96 [some (.ref 2)] [] K)) else K none ((zu (zu (zu ia 2 6 (ia 2 4)) 2 7 (0 : Int32)) 2 5 (0 : Int32)), la, zRA pl dr cp cw rp)) := by
  refine (Q_aload_n zm_59 (Or.inl (by decide)) D59_52 rfl).trans ?_
  refine (Q_aload_n zm_59 (Or.inl (by decide)) D59_53 rfl).trans ?_
  refine (Q_getI zm_59 (Or.inl (by decide)) D59_54 zf_7_46 (Or.inl zs_7_4) zk_2.1).trans ?_
  refine (Q_putI zm_59 (Or.inl (by decide)) D59_57 zf_7_52 zs_7_6 rfl zk_2.1).trans ?_
  refine (Q_aload_n zm_59 (Or.inl (by decide)) D59_60 rfl).trans ?_
  refine (Q_iconst (v := 0) zm_59 (Or.inl (by decide)) D59_61 (by decide)).trans ?_
  refine (Q_putI zm_59 (Or.inl (by decide)) D59_62 zf_7_55 zs_7_7 rfl zk_2.1).trans ?_
  refine (Q_aload_n zm_59 (Or.inl (by decide)) D59_65 rfl).trans ?_
  refine (Q_getI zm_59 (Or.inl (by decide)) D59_66 zf_7_46 (Or.inl zs_7_4) zk_2.1).trans ?_
  refine (Q_aload_n zm_59 (Or.inl (by decide)) D59_69 rfl).trans ?_
  refine (Q_getI zm_59 (Or.inl (by decide)) D59_70 zf_7_44 (Or.inl zs_7_3) zk_2.1).trans ?_
  refine (Q_ic_lt (tgt := 84) zm_59 (Or.inl (by decide)) D59_73 (by decide)).trans ?_
  refine zif_c (fun h0_ => ?_) (fun h0_ => ?_)
  · refine (Q_aload_n zm_59 (Or.inl (by decide)) D59_84 rfl).trans ?_
    refine (Q_getR (q := 3) zm_59 (Or.inl (by decide)) D59_85 zf_7_9 zs_7_0 zk_2.1 rfl).trans ?_
    refine (Q_aload_n zm_59 (Or.inl (by decide)) D59_88 rfl).trans ?_
    refine (Q_getI zm_59 (Or.inl (by decide)) D59_89 zf_7_46 (Or.inl zs_7_4) zk_2.1).trans ?_
    refine (Q_baload zm_59 (Or.inl (by decide)) D59_92 zk_3.1 (by decide) zk_3.2).trans ?_
    refine zand_c (fun h1_ => ?_)
    exact Q_calls (as := [.int ((zu (zu ia 2 6 (ia 2 4)) 2 7 (0 : Int32)) 3 (((zu (zu ia 2 6 (ia 2 4)) 2 7 (0 : Int32)) 2 4)).toNatClampNeg)]) (rest := []) zm_59 (Or.inl (by decide)) D59_93 zc_7_61 rfl (by decide) (by simp [zcat, Value.category]) zm_60 rfl
  · refine (Q_aload_n zm_59 (Or.inl (by decide)) D59_76 rfl).trans ?_
    refine (Q_iconst (v := 0) zm_59 (Or.inl (by decide)) D59_77 (by decide)).trans ?_
    refine (Q_putI zm_59 (Or.inl (by decide)) D59_78 zf_7_58 zs_7_5 rfl zk_2.1).trans ?_
    refine (Q_goto (tgt := 132) zm_59 (Or.inl (by decide)) D59_81 (by decide)).trans ?_
    exact Q_return zm_59 (Or.inl (by decide)) D59_132 rfl

theorem b59_96 {d : Nat} {s0 : Int32} {ia : Nat → Nat → Int32} {la : Nat → Nat → Int64} {pl dr : Nat} {cp : Option Nat} {cw : Option Nat} {rp : Option Nat} {K : Option Value → zHP → Prop}  : zWP (d + 1) 59 96 [some (.ref 2)] [.int s0] (ia, la, zRA pl dr cp cw rp) K = (if s0 = 0 then (vp_in (ia 2 4) 700 ∧ zWM d 61 [.int (ia 3 ((ia 2 4)).toNatClampNeg)] (ia, la, zRA pl dr cp cw rp) (zK (d + 1) 59 118 [some (.ref 2)] [] K)) else zWM d 62 [.ref 2] (ia, la, zRA pl dr cp cw rp) (zK (d + 1) 59 103 [some (.ref 2)] [] K)) := by
  refine (Q_if_eq (tgt := 106) zm_59 (Or.inl (by decide)) D59_96 (by decide)).trans ?_
  refine zif_c (fun h0_ => ?_) (fun h0_ => ?_)
  · refine (Q_aload_n zm_59 (Or.inl (by decide)) D59_106 rfl).trans ?_
    refine (Q_getR (q := 3) zm_59 (Or.inl (by decide)) D59_107 zf_7_9 zs_7_0 zk_2.1 rfl).trans ?_
    refine (Q_aload_n zm_59 (Or.inl (by decide)) D59_110 rfl).trans ?_
    refine (Q_getI zm_59 (Or.inl (by decide)) D59_111 zf_7_46 (Or.inl zs_7_4) zk_2.1).trans ?_
    refine (Q_baload zm_59 (Or.inl (by decide)) D59_114 zk_3.1 (by decide) zk_3.2).trans ?_
    refine zand_c (fun h1_ => ?_)
    exact Q_calls (as := [.int (ia 3 ((ia 2 4)).toNatClampNeg)]) (rest := []) zm_59 (Or.inl (by decide)) D59_115 zc_7_68 rfl (by decide) (by simp [zcat, Value.category]) zm_61 rfl
  · refine (Q_aload_n zm_59 (Or.inl (by decide)) D59_99 rfl).trans ?_
    exact Q_callv (as := []) (b := 2) (rest := []) zm_59 (Or.inl (by decide)) D59_100 zc_7_65 rfl zk_2.1 (by decide) (by decide +kernel) (by decide) (by simp [zcat, Value.category]) zm_62 rfl

theorem b59_118 {d : Nat} {s0 : Int32} {ia : Nat → Nat → Int32} {la : Nat → Nat → Int64} {pl dr : Nat} {cp : Option Nat} {cw : Option Nat} {rp : Option Nat} {K : Option Value → zHP → Prop}  : zWP (d + 1) 59 118 [some (.ref 2)] [.int s0] (ia, la, zRA pl dr cp cw rp) K = (if s0 = 0 then zWM d 65 [.ref 2] (ia, la, zRA pl dr cp cw rp) (zK (d + 1) 59 132 [some (.ref 2)] [] K) else zWM d 64 [.ref 2] (ia, la, zRA pl dr cp cw rp) (zK (d + 1) 59 125 [some (.ref 2)] [] K)) := by
  refine (Q_if_eq (tgt := 128) zm_59 (Or.inl (by decide)) D59_118 (by decide)).trans ?_
  refine zif_c (fun h0_ => ?_) (fun h0_ => ?_)
  · refine (Q_aload_n zm_59 (Or.inl (by decide)) D59_128 rfl).trans ?_
    exact Q_callv (as := []) (b := 2) (rest := []) zm_59 (Or.inl (by decide)) D59_129 zc_7_74 rfl zk_2.1 (by decide) (by decide +kernel) (by decide) (by simp [zcat, Value.category]) zm_65 rfl
  · refine (Q_aload_n zm_59 (Or.inl (by decide)) D59_121 rfl).trans ?_
    exact Q_callv (as := []) (b := 2) (rest := []) zm_59 (Or.inl (by decide)) D59_122 zc_7_71 rfl zk_2.1 (by decide) (by decide +kernel) (by decide) (by simp [zcat, Value.category]) zm_64 rfl

theorem b59_103 {d : Nat}  {ia : Nat → Nat → Int32} {la : Nat → Nat → Int64} {pl dr : Nat} {cp : Option Nat} {cw : Option Nat} {rp : Option Nat} {K : Option Value → zHP → Prop}  : zWP d 59 103 [some (.ref 2)] [] (ia, la, zRA pl dr cp cw rp) K = K none (ia, la, zRA pl dr cp cw rp) := by
  refine (Q_goto (tgt := 132) zm_59 (Or.inl (by decide)) D59_103 (by decide)).trans ?_
  exact Q_return zm_59 (Or.inl (by decide)) D59_132 rfl

theorem b59_132 {d : Nat}  {ia : Nat → Nat → Int32} {la : Nat → Nat → Int64} {pl dr : Nat} {cp : Option Nat} {cw : Option Nat} {rp : Option Nat} {K : Option Value → zHP → Prop}  : zWP d 59 132 [some (.ref 2)] [] (ia, la, zRA pl dr cp cw rp) K = K none (ia, la, zRA pl dr cp cw rp) := by
  exact Q_return zm_59 (Or.inl (by decide)) D59_132 rfl

theorem b59_125 {d : Nat}  {ia : Nat → Nat → Int32} {la : Nat → Nat → Int64} {pl dr : Nat} {cp : Option Nat} {cw : Option Nat} {rp : Option Nat} {K : Option Value → zHP → Prop}  : zWP d 59 125 [some (.ref 2)] [] (ia, la, zRA pl dr cp cw rp) K = K none (ia, la, zRA pl dr cp cw rp) := by
  refine (Q_goto (tgt := 132) zm_59 (Or.inl (by decide)) D59_125 (by decide)).trans ?_
  exact Q_return zm_59 (Or.inl (by decide)) D59_132 rfl

/-! HandsLet$Tokens.isSmall(I)Z -/
theorem D60_0 : decode prog_9_method_6_code 0 = .ok (.iload_n 0, 1) := by decide +kernel
theorem D60_1 : decode prog_9_method_6_code 1 = .ok (.bipush 97, 2) := by decide +kernel
theorem D60_3 : decode prog_9_method_6_code 3 = .ok (.if_icmp .lt 13, 3) := by decide +kernel
theorem D60_6 : decode prog_9_method_6_code 6 = .ok (.iload_n 0, 1) := by decide +kernel
theorem D60_7 : decode prog_9_method_6_code 7 = .ok (.bipush 122, 2) := by decide +kernel
theorem D60_9 : decode prog_9_method_6_code 9 = .ok (.if_icmp .gt 7, 3) := by decide +kernel
theorem D60_12 : decode prog_9_method_6_code 12 = .ok (.iconst 1, 1) := by decide +kernel
theorem D60_13 : decode prog_9_method_6_code 13 = .ok (.goto 4, 3) := by decide +kernel
theorem D60_16 : decode prog_9_method_6_code 16 = .ok (.iconst 0, 1) := by decide +kernel
theorem D60_17 : decode prog_9_method_6_code 17 = .ok (.ireturn, 1) := by decide +kernel

theorem b60_0 {d : Nat} {i0 : Int32} {ia : Nat → Nat → Int32} {la : Nat → Nat → Int64} {pl dr : Nat} {cp : Option Nat} {cw : Option Nat} {rp : Option Nat} {K : Option Value → zHP → Prop}  : zWP d 60 0 [some (.int i0)] [] (ia, la, zRA pl dr cp cw rp) K = (if i0 < (97 : Int32) then K (some (.int (0 : Int32))) (ia, la, zRA pl dr cp cw rp) else (if (122 : Int32) < i0 then K (some (.int (0 : Int32))) (ia, la, zRA pl dr cp cw rp) else K (some (.int (1 : Int32))) (ia, la, zRA pl dr cp cw rp))) := by
  refine (Q_iload_n zm_60 (Or.inl (by decide)) D60_0 rfl).trans ?_
  refine (Q_bipush (v := 97) zm_60 (Or.inl (by decide)) D60_1 (by decide)).trans ?_
  refine (Q_ic_lt (tgt := 16) zm_60 (Or.inl (by decide)) D60_3 (by decide)).trans ?_
  refine zif_c (fun h0_ => ?_) (fun h0_ => ?_)
  · refine (Q_iconst (v := 0) zm_60 (Or.inl (by decide)) D60_16 (by decide)).trans ?_
    exact Q_zreturn zm_60 (Or.inl (by decide)) D60_17 rfl (by decide)
  · refine (Q_iload_n zm_60 (Or.inl (by decide)) D60_6 rfl).trans ?_
    refine (Q_bipush (v := 122) zm_60 (Or.inl (by decide)) D60_7 (by decide)).trans ?_
    refine (Q_ic_gt (tgt := 16) zm_60 (Or.inl (by decide)) D60_9 (by decide)).trans ?_
    refine zif_c (fun h1_ => ?_) (fun h1_ => ?_)
    · refine (Q_iconst (v := 0) zm_60 (Or.inl (by decide)) D60_16 (by decide)).trans ?_
      exact Q_zreturn zm_60 (Or.inl (by decide)) D60_17 rfl (by decide)
    · refine (Q_iconst (v := 1) zm_60 (Or.inl (by decide)) D60_12 (by decide)).trans ?_
      refine (Q_goto (tgt := 17) zm_60 (Or.inl (by decide)) D60_13 (by decide)).trans ?_
      exact Q_zreturn zm_60 (Or.inl (by decide)) D60_17 rfl (by decide)

/-! HandsLet$Tokens.isDigit(I)Z -/
theorem D61_0 : decode prog_9_method_7_code 0 = .ok (.iload_n 0, 1) := by decide +kernel
theorem D61_1 : decode prog_9_method_7_code 1 = .ok (.bipush 48, 2) := by decide +kernel
theorem D61_3 : decode prog_9_method_7_code 3 = .ok (.if_icmp .lt 13, 3) := by decide +kernel
theorem D61_6 : decode prog_9_method_7_code 6 = .ok (.iload_n 0, 1) := by decide +kernel
theorem D61_7 : decode prog_9_method_7_code 7 = .ok (.bipush 57, 2) := by decide +kernel
theorem D61_9 : decode prog_9_method_7_code 9 = .ok (.if_icmp .gt 7, 3) := by decide +kernel
theorem D61_12 : decode prog_9_method_7_code 12 = .ok (.iconst 1, 1) := by decide +kernel
theorem D61_13 : decode prog_9_method_7_code 13 = .ok (.goto 4, 3) := by decide +kernel
theorem D61_16 : decode prog_9_method_7_code 16 = .ok (.iconst 0, 1) := by decide +kernel
theorem D61_17 : decode prog_9_method_7_code 17 = .ok (.ireturn, 1) := by decide +kernel

theorem b61_0 {d : Nat} {i0 : Int32} {ia : Nat → Nat → Int32} {la : Nat → Nat → Int64} {pl dr : Nat} {cp : Option Nat} {cw : Option Nat} {rp : Option Nat} {K : Option Value → zHP → Prop}  : zWP d 61 0 [some (.int i0)] [] (ia, la, zRA pl dr cp cw rp) K = (if i0 < (48 : Int32) then K (some (.int (0 : Int32))) (ia, la, zRA pl dr cp cw rp) else (if (57 : Int32) < i0 then K (some (.int (0 : Int32))) (ia, la, zRA pl dr cp cw rp) else K (some (.int (1 : Int32))) (ia, la, zRA pl dr cp cw rp))) := by
  refine (Q_iload_n zm_61 (Or.inl (by decide)) D61_0 rfl).trans ?_
  refine (Q_bipush (v := 48) zm_61 (Or.inl (by decide)) D61_1 (by decide)).trans ?_
  refine (Q_ic_lt (tgt := 16) zm_61 (Or.inl (by decide)) D61_3 (by decide)).trans ?_
  refine zif_c (fun h0_ => ?_) (fun h0_ => ?_)
  · refine (Q_iconst (v := 0) zm_61 (Or.inl (by decide)) D61_16 (by decide)).trans ?_
    exact Q_zreturn zm_61 (Or.inl (by decide)) D61_17 rfl (by decide)
  · refine (Q_iload_n zm_61 (Or.inl (by decide)) D61_6 rfl).trans ?_
    refine (Q_bipush (v := 57) zm_61 (Or.inl (by decide)) D61_7 (by decide)).trans ?_
    refine (Q_ic_gt (tgt := 16) zm_61 (Or.inl (by decide)) D61_9 (by decide)).trans ?_
    refine zif_c (fun h1_ => ?_) (fun h1_ => ?_)
    · refine (Q_iconst (v := 0) zm_61 (Or.inl (by decide)) D61_16 (by decide)).trans ?_
      exact Q_zreturn zm_61 (Or.inl (by decide)) D61_17 rfl (by decide)
    · refine (Q_iconst (v := 1) zm_61 (Or.inl (by decide)) D61_12 (by decide)).trans ?_
      refine (Q_goto (tgt := 17) zm_61 (Or.inl (by decide)) D61_13 (by decide)).trans ?_
      exact Q_zreturn zm_61 (Or.inl (by decide)) D61_17 rfl (by decide)

/-! HandsLet$Tokens.readWord()V -/
theorem D62_0 : decode prog_9_method_8_code 0 = .ok (.iconst 0, 1) := by decide +kernel
theorem D62_1 : decode prog_9_method_8_code 1 = .ok (.istore_n 1, 1) := by decide +kernel
theorem D62_2 : decode prog_9_method_8_code 2 = .ok (.aload_n 0, 1) := by decide +kernel
theorem D62_3 : decode prog_9_method_8_code 3 = .ok (.getfield 46, 3) := by decide +kernel
theorem D62_6 : decode prog_9_method_8_code 6 = .ok (.aload_n 0, 1) := by decide +kernel
theorem D62_7 : decode prog_9_method_8_code 7 = .ok (.getfield 44, 3) := by decide +kernel
theorem D62_10 : decode prog_9_method_8_code 10 = .ok (.if_icmp .ge 62, 3) := by decide +kernel
theorem D62_13 : decode prog_9_method_8_code 13 = .ok (.aload_n 0, 1) := by decide +kernel
theorem D62_14 : decode prog_9_method_8_code 14 = .ok (.getfield 9, 3) := by decide +kernel
theorem D62_17 : decode prog_9_method_8_code 17 = .ok (.aload_n 0, 1) := by decide +kernel
theorem D62_18 : decode prog_9_method_8_code 18 = .ok (.getfield 46, 3) := by decide +kernel
theorem D62_21 : decode prog_9_method_8_code 21 = .ok (.baload, 1) := by decide +kernel
theorem D62_22 : decode prog_9_method_8_code 22 = .ok (.invokestatic 61, 3) := by decide +kernel
theorem D62_25 : decode prog_9_method_8_code 25 = .ok (.ifCond .eq 47, 3) := by decide +kernel
theorem D62_28 : decode prog_9_method_8_code 28 = .ok (.iload_n 1, 1) := by decide +kernel
theorem D62_29 : decode prog_9_method_8_code 29 = .ok (.bipush 6, 2) := by decide +kernel
theorem D62_31 : decode prog_9_method_8_code 31 = .ok (.if_icmp .ge 25, 3) := by decide +kernel
theorem D62_34 : decode prog_9_method_8_code 34 = .ok (.aload_n 0, 1) := by decide +kernel
theorem D62_35 : decode prog_9_method_8_code 35 = .ok (.dup, 1) := by decide +kernel
theorem D62_36 : decode prog_9_method_8_code 36 = .ok (.getfield 55, 3) := by decide +kernel
theorem D62_39 : decode prog_9_method_8_code 39 = .ok (.aload_n 0, 1) := by decide +kernel
theorem D62_40 : decode prog_9_method_8_code 40 = .ok (.getfield 9, 3) := by decide +kernel
theorem D62_43 : decode prog_9_method_8_code 43 = .ok (.aload_n 0, 1) := by decide +kernel
theorem D62_44 : decode prog_9_method_8_code 44 = .ok (.getfield 46, 3) := by decide +kernel
theorem D62_47 : decode prog_9_method_8_code 47 = .ok (.baload, 1) := by decide +kernel
theorem D62_48 : decode prog_9_method_8_code 48 = .ok (.iload_n 1, 1) := by decide +kernel
theorem D62_49 : decode prog_9_method_8_code 49 = .ok (.invokestatic 31, 3) := by decide +kernel
theorem D62_52 : decode prog_9_method_8_code 52 = .ok (.ior, 1) := by decide +kernel
theorem D62_53 : decode prog_9_method_8_code 53 = .ok (.putfield 55, 3) := by decide +kernel
theorem D62_56 : decode prog_9_method_8_code 56 = .ok (.iinc 1 1, 3) := by decide +kernel
theorem D62_59 : decode prog_9_method_8_code 59 = .ok (.aload_n 0, 1) := by decide +kernel
theorem D62_60 : decode prog_9_method_8_code 60 = .ok (.dup, 1) := by decide +kernel
theorem D62_61 : decode prog_9_method_8_code 61 = .ok (.getfield 46, 3) := by decide +kernel
theorem D62_64 : decode prog_9_method_8_code 64 = .ok (.iconst 1, 1) := by decide +kernel
theorem D62_65 : decode prog_9_method_8_code 65 = .ok (.iadd, 1) := by decide +kernel
theorem D62_66 : decode prog_9_method_8_code 66 = .ok (.putfield 46, 3) := by decide +kernel
theorem D62_69 : decode prog_9_method_8_code 69 = .ok (.goto (-67), 3) := by decide +kernel
theorem D62_72 : decode prog_9_method_8_code 72 = .ok (.aload_n 0, 1) := by decide +kernel
theorem D62_73 : decode prog_9_method_8_code 73 = .ok (.iload_n 1, 1) := by decide +kernel
theorem D62_74 : decode prog_9_method_8_code 74 = .ok (.bipush 6, 2) := by decide +kernel
theorem D62_76 : decode prog_9_method_8_code 76 = .ok (.if_icmp .le 7, 3) := by decide +kernel
theorem D62_79 : decode prog_9_method_8_code 79 = .ok (.iconst 1, 1) := by decide +kernel
theorem D62_80 : decode prog_9_method_8_code 80 = .ok (.goto 11, 3) := by decide +kernel
theorem D62_83 : decode prog_9_method_8_code 83 = .ok (.aload_n 0, 1) := by decide +kernel
theorem D62_84 : decode prog_9_method_8_code 84 = .ok (.aload_n 0, 1) := by decide +kernel
theorem D62_85 : decode prog_9_method_8_code 85 = .ok (.getfield 55, 3) := by decide +kernel
theorem D62_88 : decode prog_9_method_8_code 88 = .ok (.invokevirtual 77, 3) := by decide +kernel
theorem D62_91 : decode prog_9_method_8_code 91 = .ok (.putfield 58, 3) := by decide +kernel
theorem D62_94 : decode prog_9_method_8_code 94 = .ok (.return_, 1) := by decide +kernel

theorem b62_0 {d : Nat}  {ia : Nat → Nat → Int32} {la : Nat → Nat → Int64} {pl dr : Nat} {cp : Option Nat} {cw : Option Nat} {rp : Option Nat} {K : Option Value → zHP → Prop}  : zWP d 62 0 [some (.ref 2), none] [] (ia, la, zRA pl dr cp cw rp) K = zWP d 62 2 [some (.ref 2), some (.int (0 : Int32))] [] (ia, la, zRA pl dr cp cw rp) K := by
  refine (Q_iconst (v := 0) zm_62 (Or.inl (by decide)) D62_0 (by decide)).trans ?_
  refine (Q_istore_n (ls' := [some (.ref 2), some (.int (0 : Int32))]) zm_62 (Or.inl (by decide)) D62_1 rfl (Nat.le_of_ble_eq_true rfl) rfl).trans ?_
  rfl

theorem b62_2 {d : Nat} {i1 : Int32} {ia : Nat → Nat → Int32} {la : Nat → Nat → Int64} {pl dr : Nat} {cp : Option Nat} {cw : Option Nat} {rp : Option Nat} {K : Option Value → zHP → Prop}  : zWP (d + 1) 62 2 [some (.ref 2), some (.int i1)] [] (ia, la, zRA pl dr cp cw rp) K = (if (ia 2 3) ≤ (ia 2 4) then zWP (d + 1) 62 72 [some (.ref 2), some (.int i1)] [] (ia, la, zRA pl dr cp cw rp) K else (vp_in (ia 2 4) 700 ∧ zWM d 60 [.int (ia 3 ((ia 2 4)).toNatClampNeg)] (ia, la, zRA pl dr cp cw rp) (zK (d + 1) 62 25 [some (.ref 2), some (.int i1)] [] K))) := by
  refine (Q_aload_n zm_62 (Or.inl (by decide)) D62_2 rfl).trans ?_
  refine (Q_getI zm_62 (Or.inl (by decide)) D62_3 zf_7_46 (Or.inl zs_7_4) zk_2.1).trans ?_
  refine (Q_aload_n zm_62 (Or.inl (by decide)) D62_6 rfl).trans ?_
  refine (Q_getI zm_62 (Or.inl (by decide)) D62_7 zf_7_44 (Or.inl zs_7_3) zk_2.1).trans ?_
  refine (Q_ic_ge (tgt := 72) zm_62 (Or.inl (by decide)) D62_10 (by decide)).trans ?_
  refine zif_c (fun h0_ => ?_) (fun h0_ => ?_)
  · rfl
  · refine (Q_aload_n zm_62 (Or.inl (by decide)) D62_13 rfl).trans ?_
    refine (Q_getR (q := 3) zm_62 (Or.inl (by decide)) D62_14 zf_7_9 zs_7_0 zk_2.1 rfl).trans ?_
    refine (Q_aload_n zm_62 (Or.inl (by decide)) D62_17 rfl).trans ?_
    refine (Q_getI zm_62 (Or.inl (by decide)) D62_18 zf_7_46 (Or.inl zs_7_4) zk_2.1).trans ?_
    refine (Q_baload zm_62 (Or.inl (by decide)) D62_21 zk_3.1 (by decide) zk_3.2).trans ?_
    refine zand_c (fun h1_ => ?_)
    exact Q_calls (as := [.int (ia 3 ((ia 2 4)).toNatClampNeg)]) (rest := []) zm_62 (Or.inl (by decide)) D62_22 zc_7_61 rfl (by decide) (by simp [zcat, Value.category]) zm_60 rfl

theorem b62_72 {d : Nat} {i1 : Int32} {ia : Nat → Nat → Int32} {la : Nat → Nat → Int64} {pl dr : Nat} {cp : Option Nat} {cw : Option Nat} {rp : Option Nat} {K : Option Value → zHP → Prop}  : zWP (d + 1) 62 72 [some (.ref 2), some (.int i1)] [] (ia, la, zRA pl dr cp cw rp) K = (if i1 ≤ (6 : Int32) then zWM d 63 [.ref 2, .int (ia 2 7)] (ia, la, zRA pl dr cp cw rp) (zK (d + 1) 62 91 [some (.ref 2), some (.int i1)] [.ref 2] K) else K none ((zu ia 2 5 (1 : Int32)), la, zRA pl dr cp cw rp)) := by
  refine (Q_aload_n zm_62 (Or.inl (by decide)) D62_72 rfl).trans ?_
  refine (Q_iload_n zm_62 (Or.inl (by decide)) D62_73 rfl).trans ?_
  refine (Q_bipush (v := 6) zm_62 (Or.inl (by decide)) D62_74 (by decide)).trans ?_
  refine (Q_ic_le (tgt := 83) zm_62 (Or.inl (by decide)) D62_76 (by decide)).trans ?_
  refine zif_c (fun h0_ => ?_) (fun h0_ => ?_)
  · refine (Q_aload_n zm_62 (Or.inl (by decide)) D62_83 rfl).trans ?_
    refine (Q_aload_n zm_62 (Or.inl (by decide)) D62_84 rfl).trans ?_
    refine (Q_getI zm_62 (Or.inl (by decide)) D62_85 zf_7_55 (Or.inl zs_7_7) zk_2.1).trans ?_
    exact Q_callv (as := [.int (ia 2 7)]) (b := 2) (rest := [.ref 2]) zm_62 (Or.inl (by decide)) D62_88 zc_7_77 rfl zk_2.1 (by decide) (by decide +kernel) (by decide) (by simp [zcat, Value.category]) zm_63 rfl
  · refine (Q_iconst (v := 1) zm_62 (Or.inl (by decide)) D62_79 (by decide)).trans ?_
    refine (Q_goto (tgt := 91) zm_62 (Or.inl (by decide)) D62_80 (by decide)).trans ?_
    refine (Q_putI zm_62 (Or.inl (by decide)) D62_91 zf_7_58 zs_7_5 rfl zk_2.1).trans ?_
    exact Q_return zm_62 (Or.inl (by decide)) D62_94 rfl

theorem b62_25 {d : Nat} {i1 : Int32} {s0 : Int32} {ia : Nat → Nat → Int32} {la : Nat → Nat → Int64} {pl dr : Nat} {cp : Option Nat} {cw : Option Nat} {rp : Option Nat} {K : Option Value → zHP → Prop}  : zWP (d + 1) 62 25 [some (.ref 2), some (.int i1)] [.int s0] (ia, la, zRA pl dr cp cw rp) K = (if s0 = 0 then zWP (d + 1) 62 72 [some (.ref 2), some (.int i1)] [] (ia, la, zRA pl dr cp cw rp) K else (if (6 : Int32) ≤ i1 then zWP (d + 1) 62 2 [some (.ref 2), some (.int (i1 + (1 : Int32)))] [] ((zu ia 2 4 ((ia 2 4) + (1 : Int32))), la, zRA pl dr cp cw rp) K else (vp_in (ia 2 4) 700 ∧ zWM d 56 [.int (ia 3 ((ia 2 4)).toNatClampNeg), .int i1] (ia, la, zRA pl dr cp cw rp) (zK (d + 1) 62 52 [some (.ref 2), some (.int i1)] [.int (ia 2 7), .ref 2] K)))) := by
  refine (Q_if_eq (tgt := 72) zm_62 (Or.inl (by decide)) D62_25 (by decide)).trans ?_
  refine zif_c (fun h0_ => ?_) (fun h0_ => ?_)
  · rfl
  · refine (Q_iload_n zm_62 (Or.inl (by decide)) D62_28 rfl).trans ?_
    refine (Q_bipush (v := 6) zm_62 (Or.inl (by decide)) D62_29 (by decide)).trans ?_
    refine (Q_ic_ge (tgt := 56) zm_62 (Or.inl (by decide)) D62_31 (by decide)).trans ?_
    refine zif_c (fun h1_ => ?_) (fun h1_ => ?_)
    · refine (Q_iinc (v := 1) (ls' := [some (.ref 2), some (.int (i1 + (1 : Int32)))]) zm_62 (Or.inl (by decide)) D62_56 rfl rfl (by decide) rfl).trans ?_
      refine (Q_aload_n zm_62 (Or.inl (by decide)) D62_59 rfl).trans ?_
      refine (Q_dup zm_62 (Or.inl (by decide)) D62_60 rfl).trans ?_
      refine (Q_getI zm_62 (Or.inl (by decide)) D62_61 zf_7_46 (Or.inl zs_7_4) zk_2.1).trans ?_
      refine (Q_iconst (v := 1) zm_62 (Or.inl (by decide)) D62_64 (by decide)).trans ?_
      refine (Q_iadd zm_62 (Or.inl (by decide)) D62_65).trans ?_
      refine (Q_putI zm_62 (Or.inl (by decide)) D62_66 zf_7_46 zs_7_4 rfl zk_2.1).trans ?_
      refine (Q_goto (tgt := 2) zm_62 (Or.inl (by decide)) D62_69 (by decide)).trans ?_
      rfl
    · refine (Q_aload_n zm_62 (Or.inl (by decide)) D62_34 rfl).trans ?_
      refine (Q_dup zm_62 (Or.inl (by decide)) D62_35 rfl).trans ?_
      refine (Q_getI zm_62 (Or.inl (by decide)) D62_36 zf_7_55 (Or.inl zs_7_7) zk_2.1).trans ?_
      refine (Q_aload_n zm_62 (Or.inl (by decide)) D62_39 rfl).trans ?_
      refine (Q_getR (q := 3) zm_62 (Or.inl (by decide)) D62_40 zf_7_9 zs_7_0 zk_2.1 rfl).trans ?_
      refine (Q_aload_n zm_62 (Or.inl (by decide)) D62_43 rfl).trans ?_
      refine (Q_getI zm_62 (Or.inl (by decide)) D62_44 zf_7_46 (Or.inl zs_7_4) zk_2.1).trans ?_
      refine (Q_baload zm_62 (Or.inl (by decide)) D62_47 zk_3.1 (by decide) zk_3.2).trans ?_
      refine zand_c (fun h2_ => ?_)
      refine (Q_iload_n zm_62 (Or.inl (by decide)) D62_48 rfl).trans ?_
      exact Q_calls (as := [.int (ia 3 ((ia 2 4)).toNatClampNeg), .int i1]) (rest := [.int (ia 2 7), .ref 2]) zm_62 (Or.inl (by decide)) D62_49 zc_7_31 rfl (by decide) (by simp [zcat, Value.category]) zm_56 rfl

theorem b62_91 {d : Nat} {i1 : Int32} {s1 : Int32} {ia : Nat → Nat → Int32} {la : Nat → Nat → Int64} {pl dr : Nat} {cp : Option Nat} {cw : Option Nat} {rp : Option Nat} {K : Option Value → zHP → Prop}  : zWP d 62 91 [some (.ref 2), some (.int i1)] [.int s1, .ref 2] (ia, la, zRA pl dr cp cw rp) K = K none ((zu ia 2 5 s1), la, zRA pl dr cp cw rp) := by
  refine (Q_putI zm_62 (Or.inl (by decide)) D62_91 zf_7_58 zs_7_5 rfl zk_2.1).trans ?_
  exact Q_return zm_62 (Or.inl (by decide)) D62_94 rfl

theorem b62_52 {d : Nat} {i1 : Int32} {s1 : Int32} {s2 : Int32} {ia : Nat → Nat → Int32} {la : Nat → Nat → Int64} {pl dr : Nat} {cp : Option Nat} {cw : Option Nat} {rp : Option Nat} {K : Option Value → zHP → Prop}  : zWP d 62 52 [some (.ref 2), some (.int i1)] [.int s2, .int s1, .ref 2] (ia, la, zRA pl dr cp cw rp) K = zWP d 62 2 [some (.ref 2), some (.int (i1 + (1 : Int32)))] [] ((zu (zu ia 2 7 (s1 ||| s2)) 2 4 (((zu ia 2 7 (s1 ||| s2)) 2 4) + (1 : Int32))), la, zRA pl dr cp cw rp) K := by
  refine (Q_ior zm_62 (Or.inl (by decide)) D62_52).trans ?_
  refine (Q_putI zm_62 (Or.inl (by decide)) D62_53 zf_7_55 zs_7_7 rfl zk_2.1).trans ?_
  refine (Q_iinc (v := 1) (ls' := [some (.ref 2), some (.int (i1 + (1 : Int32)))]) zm_62 (Or.inl (by decide)) D62_56 rfl rfl (by decide) rfl).trans ?_
  refine (Q_aload_n zm_62 (Or.inl (by decide)) D62_59 rfl).trans ?_
  refine (Q_dup zm_62 (Or.inl (by decide)) D62_60 rfl).trans ?_
  refine (Q_getI zm_62 (Or.inl (by decide)) D62_61 zf_7_46 (Or.inl zs_7_4) zk_2.1).trans ?_
  refine (Q_iconst (v := 1) zm_62 (Or.inl (by decide)) D62_64 (by decide)).trans ?_
  refine (Q_iadd zm_62 (Or.inl (by decide)) D62_65).trans ?_
  refine (Q_putI zm_62 (Or.inl (by decide)) D62_66 zf_7_46 zs_7_4 rfl zk_2.1).trans ?_
  refine (Q_goto (tgt := 2) zm_62 (Or.inl (by decide)) D62_69 (by decide)).trans ?_
  rfl
