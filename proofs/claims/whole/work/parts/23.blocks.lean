/-! HandsLet.match(I)I -/
theorem D99_0 : decode prog_1_method_26_code 0 = .ok (.iload_n 1, 1) := by decide +kernel
theorem D99_1 : decode prog_1_method_26_code 1 = .ok (.ifCond .lt 9, 3) := by decide +kernel
theorem D99_4 : decode prog_1_method_26_code 4 = .ok (.iload_n 1, 1) := by decide +kernel
theorem D99_5 : decode prog_1_method_26_code 5 = .ok (.bipush 7, 2) := by decide +kernel
theorem D99_7 : decode prog_1_method_26_code 7 = .ok (.if_icmp .le 5, 3) := by decide +kernel
theorem D99_10 : decode prog_1_method_26_code 10 = .ok (.iconst (-1), 1) := by decide +kernel
theorem D99_11 : decode prog_1_method_26_code 11 = .ok (.ireturn, 1) := by decide +kernel
theorem D99_12 : decode prog_1_method_26_code 12 = .ok (.iconst 0, 1) := by decide +kernel
theorem D99_13 : decode prog_1_method_26_code 13 = .ok (.istore_n 2, 1) := by decide +kernel
theorem D99_14 : decode prog_1_method_26_code 14 = .ok (.iload_n 2, 1) := by decide +kernel
theorem D99_15 : decode prog_1_method_26_code 15 = .ok (.aload_n 0, 1) := by decide +kernel
theorem D99_16 : decode prog_1_method_26_code 16 = .ok (.getfield 21, 3) := by decide +kernel
theorem D99_19 : decode prog_1_method_26_code 19 = .ok (.getfield 116, 3) := by decide +kernel
theorem D99_22 : decode prog_1_method_26_code 22 = .ok (.if_icmp .ge 82, 3) := by decide +kernel
theorem D99_25 : decode prog_1_method_26_code 25 = .ok (.iconst 0, 1) := by decide +kernel
theorem D99_26 : decode prog_1_method_26_code 26 = .ok (.istore_n 3, 1) := by decide +kernel
theorem D99_27 : decode prog_1_method_26_code 27 = .ok (.iload_n 3, 1) := by decide +kernel
theorem D99_28 : decode prog_1_method_26_code 28 = .ok (.aload_n 0, 1) := by decide +kernel
theorem D99_29 : decode prog_1_method_26_code 29 = .ok (.getfield 21, 3) := by decide +kernel
theorem D99_32 : decode prog_1_method_26_code 32 = .ok (.getfield 116, 3) := by decide +kernel
theorem D99_35 : decode prog_1_method_26_code 35 = .ok (.if_icmp .ge 63, 3) := by decide +kernel
theorem D99_38 : decode prog_1_method_26_code 38 = .ok (.iload_n 2, 1) := by decide +kernel
theorem D99_39 : decode prog_1_method_26_code 39 = .ok (.iload_n 3, 1) := by decide +kernel
theorem D99_40 : decode prog_1_method_26_code 40 = .ok (.if_icmp .eq 18, 3) := by decide +kernel
theorem D99_43 : decode prog_1_method_26_code 43 = .ok (.aload_n 0, 1) := by decide +kernel
theorem D99_44 : decode prog_1_method_26_code 44 = .ok (.getfield 31, 3) := by decide +kernel
theorem D99_47 : decode prog_1_method_26_code 47 = .ok (.iload_n 3, 1) := by decide +kernel
theorem D99_48 : decode prog_1_method_26_code 48 = .ok (.invokevirtual 214, 3) := by decide +kernel
theorem D99_51 : decode prog_1_method_26_code 51 = .ok (.ifCond .ne 7, 3) := by decide +kernel
theorem D99_54 : decode prog_1_method_26_code 54 = .ok (.iconst 1, 1) := by decide +kernel
theorem D99_55 : decode prog_1_method_26_code 55 = .ok (.goto 4, 3) := by decide +kernel
theorem D99_58 : decode prog_1_method_26_code 58 = .ok (.iconst 0, 1) := by decide +kernel
theorem D99_59 : decode prog_1_method_26_code 59 = .ok (.istore 4, 2) := by decide +kernel
theorem D99_61 : decode prog_1_method_26_code 61 = .ok (.aload_n 0, 1) := by decide +kernel
theorem D99_62 : decode prog_1_method_26_code 62 = .ok (.getfield 65, 3) := by decide +kernel
theorem D99_65 : decode prog_1_method_26_code 65 = .ok (.iload_n 2, 1) := by decide +kernel
theorem D99_66 : decode prog_1_method_26_code 66 = .ok (.iload_n 3, 1) := by decide +kernel
theorem D99_67 : decode prog_1_method_26_code 67 = .ok (.iload 4, 2) := by decide +kernel
theorem D99_69 : decode prog_1_method_26_code 69 = .ok (.ifCond .eq 19, 3) := by decide +kernel
theorem D99_72 : decode prog_1_method_26_code 72 = .ok (.aload_n 0, 1) := by decide +kernel
theorem D99_73 : decode prog_1_method_26_code 73 = .ok (.aload_n 0, 1) := by decide +kernel
theorem D99_74 : decode prog_1_method_26_code 74 = .ok (.getfield 31, 3) := by decide +kernel
theorem D99_77 : decode prog_1_method_26_code 77 = .ok (.getfield 129, 3) := by decide +kernel
theorem D99_80 : decode prog_1_method_26_code 80 = .ok (.iload_n 3, 1) := by decide +kernel
theorem D99_81 : decode prog_1_method_26_code 81 = .ok (.iload_n 2, 1) := by decide +kernel
theorem D99_82 : decode prog_1_method_26_code 82 = .ok (.invokevirtual 220, 3) := by decide +kernel
theorem D99_85 : decode prog_1_method_26_code 85 = .ok (.goto 4, 3) := by decide +kernel
theorem D99_88 : decode prog_1_method_26_code 88 = .ok (.iconst (-1), 1) := by decide +kernel
theorem D99_89 : decode prog_1_method_26_code 89 = .ok (.invokevirtual 252, 3) := by decide +kernel
theorem D99_92 : decode prog_1_method_26_code 92 = .ok (.iinc 3 1, 3) := by decide +kernel
theorem D99_95 : decode prog_1_method_26_code 95 = .ok (.goto (-68), 3) := by decide +kernel
theorem D99_98 : decode prog_1_method_26_code 98 = .ok (.iinc 2 1, 3) := by decide +kernel
theorem D99_101 : decode prog_1_method_26_code 101 = .ok (.goto (-87), 3) := by decide +kernel
theorem D99_104 : decode prog_1_method_26_code 104 = .ok (.aload_n 0, 1) := by decide +kernel
theorem D99_105 : decode prog_1_method_26_code 105 = .ok (.getfield 65, 3) := by decide +kernel
theorem D99_108 : decode prog_1_method_26_code 108 = .ok (.aload_n 0, 1) := by decide +kernel
theorem D99_109 : decode prog_1_method_26_code 109 = .ok (.getfield 21, 3) := by decide +kernel
theorem D99_112 : decode prog_1_method_26_code 112 = .ok (.getfield 116, 3) := by decide +kernel
theorem D99_115 : decode prog_1_method_26_code 115 = .ok (.invokevirtual 256, 3) := by decide +kernel
theorem D99_118 : decode prog_1_method_26_code 118 = .ok (.iload_n 1, 1) := by decide +kernel
theorem D99_119 : decode prog_1_method_26_code 119 = .ok (.bipush 6, 2) := by decide +kernel
theorem D99_121 : decode prog_1_method_26_code 121 = .ok (.if_icmp .ne 11, 3) := by decide +kernel
theorem D99_124 : decode prog_1_method_26_code 124 = .ok (.aload_n 0, 1) := by decide +kernel
theorem D99_125 : decode prog_1_method_26_code 125 = .ok (.getfield 65, 3) := by decide +kernel
theorem D99_128 : decode prog_1_method_26_code 128 = .ok (.getfield 259, 3) := by decide +kernel
theorem D99_131 : decode prog_1_method_26_code 131 = .ok (.ireturn, 1) := by decide +kernel
theorem D99_132 : decode prog_1_method_26_code 132 = .ok (.iload_n 1, 1) := by decide +kernel
theorem D99_133 : decode prog_1_method_26_code 133 = .ok (.bipush 7, 2) := by decide +kernel
theorem D99_135 : decode prog_1_method_26_code 135 = .ok (.if_icmp .ne 11, 3) := by decide +kernel
theorem D99_138 : decode prog_1_method_26_code 138 = .ok (.aload_n 0, 1) := by decide +kernel
theorem D99_139 : decode prog_1_method_26_code 139 = .ok (.getfield 65, 3) := by decide +kernel
theorem D99_142 : decode prog_1_method_26_code 142 = .ok (.getfield 262, 3) := by decide +kernel
theorem D99_145 : decode prog_1_method_26_code 145 = .ok (.ireturn, 1) := by decide +kernel
theorem D99_146 : decode prog_1_method_26_code 146 = .ok (.aload_n 0, 1) := by decide +kernel
theorem D99_147 : decode prog_1_method_26_code 147 = .ok (.iload_n 1, 1) := by decide +kernel
theorem D99_148 : decode prog_1_method_26_code 148 = .ok (.invokevirtual 122, 3) := by decide +kernel
theorem D99_151 : decode prog_1_method_26_code 151 = .ok (.ifCond .eq 15, 3) := by decide +kernel
theorem D99_154 : decode prog_1_method_26_code 154 = .ok (.aload_n 0, 1) := by decide +kernel
theorem D99_155 : decode prog_1_method_26_code 155 = .ok (.getfield 65, 3) := by decide +kernel
theorem D99_158 : decode prog_1_method_26_code 158 = .ok (.getfield 265, 3) := by decide +kernel
theorem D99_161 : decode prog_1_method_26_code 161 = .ok (.iload_n 1, 1) := by decide +kernel
theorem D99_162 : decode prog_1_method_26_code 162 = .ok (.iaload, 1) := by decide +kernel
theorem D99_163 : decode prog_1_method_26_code 163 = .ok (.goto 5, 3) := by decide +kernel
theorem D99_166 : decode prog_1_method_26_code 166 = .ok (.bipush (-2), 2) := by decide +kernel
theorem D99_168 : decode prog_1_method_26_code 168 = .ok (.ireturn, 1) := by decide +kernel

theorem b99_0 {d : Nat} {i1 : Int32} {ia : Nat → Nat → Int32} {la : Nat → Nat → Int64} {pl dr : Nat} {cp : Option Nat} {cw : Option Nat} {rp : Option Nat} {K : Option Value → zHP → Prop}  : zWP d 99 0 [some (.ref 0), some (.int i1), none, none, none] [] (ia, la, zRA pl dr cp cw rp) K = (if i1 < 0 then K (some (.int (-1 : Int32))) (ia, la, zRA pl dr cp cw rp) else (if i1 ≤ (7 : Int32) then zWP d 99 14 [some (.ref 0), some (.int i1), some (.int (0 : Int32)), none, none] [] (ia, la, zRA pl dr cp cw rp) K else K (some (.int (-1 : Int32))) (ia, la, zRA pl dr cp cw rp))) := by
  refine (Q_iload_n zm_99 (Or.inl (by decide)) D99_0 rfl).trans ?_
  refine (Q_if_lt (tgt := 10) zm_99 (Or.inl (by decide)) D99_1 (by decide)).trans ?_
  refine zif_c (fun h0_ => ?_) (fun h0_ => ?_)
  · refine (Q_iconst (v := -1) zm_99 (Or.inl (by decide)) D99_10 (by decide)).trans ?_
    exact Q_ireturn zm_99 (Or.inl (by decide)) D99_11 rfl
  · refine (Q_iload_n zm_99 (Or.inl (by decide)) D99_4 rfl).trans ?_
    refine (Q_bipush (v := 7) zm_99 (Or.inl (by decide)) D99_5 (by decide)).trans ?_
    refine (Q_ic_le (tgt := 12) zm_99 (Or.inl (by decide)) D99_7 (by decide)).trans ?_
    refine zif_c (fun h1_ => ?_) (fun h1_ => ?_)
    · refine (Q_iconst (v := 0) zm_99 (Or.inl (by decide)) D99_12 (by decide)).trans ?_
      refine (Q_istore_n (ls' := [some (.ref 0), some (.int i1), some (.int (0 : Int32)), none, none]) zm_99 (Or.inl (by decide)) D99_13 rfl (Nat.le_of_ble_eq_true rfl) rfl).trans ?_
      rfl
    · refine (Q_iconst (v := -1) zm_99 (Or.inl (by decide)) D99_10 (by decide)).trans ?_
      exact Q_ireturn zm_99 (Or.inl (by decide)) D99_11 rfl

theorem b99_14 {d : Nat} {i1 : Int32} {i2 : Int32} {a3 : Option Value} {a4 : Option Value} {ia : Nat → Nat → Int32} {la : Nat → Nat → Int64} {pl dr : Nat} {cp : Option Nat} {cw : Option Nat} {rp : Option Nat} {K : Option Value → zHP → Prop} (hpl : zIsP pl) : zWP (d + 1) 99 14 [some (.ref 0), some (.int i1), some (.int i2), a3, a4] [] (ia, la, zRA pl dr cp cw rp) K = (if (ia pl 1) ≤ i2 then zWM d 15 [.ref 115, .int (ia pl 1)] (ia, la, zRA pl dr cp cw rp) (zK (d + 1) 99 118 [some (.ref 0), some (.int i1), some (.int i2), a3, a4] [] K) else zWP (d + 1) 99 27 [some (.ref 0), some (.int i1), some (.int i2), some (.int (0 : Int32)), a4] [] (ia, la, zRA pl dr cp cw rp) K) := by
  refine (Q_iload_n zm_99 (Or.inl (by decide)) D99_14 rfl).trans ?_
  refine (Q_aload_n zm_99 (Or.inl (by decide)) D99_15 rfl).trans ?_
  refine (Q_getR (q := pl) zm_99 (Or.inl (by decide)) D99_16 zf_9_21 zs_9_1 zk_0.1 rfl).trans ?_
  refine (Q_getI zm_99 (Or.inl (by decide)) D99_19 zf_9_116 (Or.inl zs_3_1) (zkp_0 hpl).1).trans ?_
  refine (Q_ic_ge (tgt := 104) zm_99 (Or.inl (by decide)) D99_22 (by decide)).trans ?_
  refine zif_c (fun h0_ => ?_) (fun h0_ => ?_)
  · refine (Q_aload_n zm_99 (Or.inl (by decide)) D99_104 rfl).trans ?_
    refine (Q_getR (q := 115) zm_99 (Or.inl (by decide)) D99_105 zf_9_65 zs_9_10 zk_0.1 rfl).trans ?_
    refine (Q_aload_n zm_99 (Or.inl (by decide)) D99_108 rfl).trans ?_
    refine (Q_getR (q := pl) zm_99 (Or.inl (by decide)) D99_109 zf_9_21 zs_9_1 zk_0.1 rfl).trans ?_
    refine (Q_getI zm_99 (Or.inl (by decide)) D99_112 zf_9_116 (Or.inl zs_3_1) (zkp_0 hpl).1).trans ?_
    exact Q_callv (as := [.int (ia pl 1)]) (b := 115) (rest := []) zm_99 (Or.inl (by decide)) D99_115 zc_9_256 rfl zk_115.1 (by decide) (by decide +kernel) (by decide) (by simp [zcat, Value.category]) zm_15 rfl
  · refine (Q_iconst (v := 0) zm_99 (Or.inl (by decide)) D99_25 (by decide)).trans ?_
    refine (Q_istore_n (ls' := [some (.ref 0), some (.int i1), some (.int i2), some (.int (0 : Int32)), a4]) zm_99 (Or.inl (by decide)) D99_26 rfl (Nat.le_of_ble_eq_true rfl) rfl).trans ?_
    rfl

theorem b99_118 {d : Nat} {i1 : Int32} {i2 : Int32} {a3 : Option Value} {a4 : Option Value} {ia : Nat → Nat → Int32} {la : Nat → Nat → Int64} {pl dr : Nat} {cp : Option Nat} {cw : Option Nat} {rp : Option Nat} {K : Option Value → zHP → Prop}  : zWP (d + 1) 99 118 [some (.ref 0), some (.int i1), some (.int i2), a3, a4] [] (ia, la, zRA pl dr cp cw rp) K = (if ¬ i1 = (6 : Int32) then (if ¬ i1 = (7 : Int32) then zWM d 80 [.ref 0, .int i1] (ia, la, zRA pl dr cp cw rp) (zK (d + 1) 99 151 [some (.ref 0), some (.int i1), some (.int i2), a3, a4] [] K) else K (some (.int (ia 115 4))) (ia, la, zRA pl dr cp cw rp)) else K (some (.int (ia 115 3))) (ia, la, zRA pl dr cp cw rp)) := by
  refine (Q_iload_n zm_99 (Or.inl (by decide)) D99_118 rfl).trans ?_
  refine (Q_bipush (v := 6) zm_99 (Or.inl (by decide)) D99_119 (by decide)).trans ?_
  refine (Q_ic_ne (tgt := 132) zm_99 (Or.inl (by decide)) D99_121 (by decide)).trans ?_
  refine zif_c (fun h0_ => ?_) (fun h0_ => ?_)
  · refine (Q_iload_n zm_99 (Or.inl (by decide)) D99_132 rfl).trans ?_
    refine (Q_bipush (v := 7) zm_99 (Or.inl (by decide)) D99_133 (by decide)).trans ?_
    refine (Q_ic_ne (tgt := 146) zm_99 (Or.inl (by decide)) D99_135 (by decide)).trans ?_
    refine zif_c (fun h1_ => ?_) (fun h1_ => ?_)
    · refine (Q_aload_n zm_99 (Or.inl (by decide)) D99_146 rfl).trans ?_
      refine (Q_iload_n zm_99 (Or.inl (by decide)) D99_147 rfl).trans ?_
      exact Q_callv (as := [.int i1]) (b := 0) (rest := []) zm_99 (Or.inl (by decide)) D99_148 zc_9_122 rfl zk_0.1 (by decide) (by decide +kernel) (by decide) (by simp [zcat, Value.category]) zm_80 rfl
    · refine (Q_aload_n zm_99 (Or.inl (by decide)) D99_138 rfl).trans ?_
      refine (Q_getR (q := 115) zm_99 (Or.inl (by decide)) D99_139 zf_9_65 zs_9_10 zk_0.1 rfl).trans ?_
      refine (Q_getI zm_99 (Or.inl (by decide)) D99_142 zf_9_262 (Or.inl zs_2_4) zk_115.1).trans ?_
      exact Q_ireturn zm_99 (Or.inl (by decide)) D99_145 rfl
  · refine (Q_aload_n zm_99 (Or.inl (by decide)) D99_124 rfl).trans ?_
    refine (Q_getR (q := 115) zm_99 (Or.inl (by decide)) D99_125 zf_9_65 zs_9_10 zk_0.1 rfl).trans ?_
    refine (Q_getI zm_99 (Or.inl (by decide)) D99_128 zf_9_259 (Or.inl zs_2_3) zk_115.1).trans ?_
    exact Q_ireturn zm_99 (Or.inl (by decide)) D99_131 rfl

theorem b99_27 {d : Nat} {i1 : Int32} {i2 : Int32} {i3 : Int32} {a4 : Option Value} {ia : Nat → Nat → Int32} {la : Nat → Nat → Int64} {pl dr : Nat} {cp : Option Nat} {cw : Option Nat} {rp : Option Nat} {K : Option Value → zHP → Prop} (hpl : zIsP pl) : zWP (d + 1) 99 27 [some (.ref 0), some (.int i1), some (.int i2), some (.int i3), a4] [] (ia, la, zRA pl dr cp cw rp) K = (if (ia pl 1) ≤ i3 then zWP (d + 1) 99 14 [some (.ref 0), some (.int i1), some (.int (i2 + (1 : Int32))), some (.int i3), a4] [] (ia, la, zRA pl dr cp cw rp) K else (if i2 = i3 then zWP (d + 1) 99 58 [some (.ref 0), some (.int i1), some (.int i2), some (.int i3), a4] [] (ia, la, zRA pl dr cp cw rp) K else zWM d 69 [.ref 72, .int i3] (ia, la, zRA pl dr cp cw rp) (zK (d + 1) 99 51 [some (.ref 0), some (.int i1), some (.int i2), some (.int i3), a4] [] K))) := by
  refine (Q_iload_n zm_99 (Or.inl (by decide)) D99_27 rfl).trans ?_
  refine (Q_aload_n zm_99 (Or.inl (by decide)) D99_28 rfl).trans ?_
  refine (Q_getR (q := pl) zm_99 (Or.inl (by decide)) D99_29 zf_9_21 zs_9_1 zk_0.1 rfl).trans ?_
  refine (Q_getI zm_99 (Or.inl (by decide)) D99_32 zf_9_116 (Or.inl zs_3_1) (zkp_0 hpl).1).trans ?_
  refine (Q_ic_ge (tgt := 98) zm_99 (Or.inl (by decide)) D99_35 (by decide)).trans ?_
  refine zif_c (fun h0_ => ?_) (fun h0_ => ?_)
  · refine (Q_iinc (v := 1) (ls' := [some (.ref 0), some (.int i1), some (.int (i2 + (1 : Int32))), some (.int i3), a4]) zm_99 (Or.inl (by decide)) D99_98 rfl rfl (by decide) rfl).trans ?_
    refine (Q_goto (tgt := 14) zm_99 (Or.inl (by decide)) D99_101 (by decide)).trans ?_
    rfl
  · refine (Q_iload_n zm_99 (Or.inl (by decide)) D99_38 rfl).trans ?_
    refine (Q_iload_n zm_99 (Or.inl (by decide)) D99_39 rfl).trans ?_
    refine (Q_ic_eq (tgt := 58) zm_99 (Or.inl (by decide)) D99_40 (by decide)).trans ?_
    refine zif_c (fun h1_ => ?_) (fun h1_ => ?_)
    · rfl
    · refine (Q_aload_n zm_99 (Or.inl (by decide)) D99_43 rfl).trans ?_
      refine (Q_getR (q := 72) zm_99 (Or.inl (by decide)) D99_44 zf_9_31 zs_9_3 zk_0.1 rfl).trans ?_
      refine (Q_iload_n zm_99 (Or.inl (by decide)) D99_47 rfl).trans ?_
      exact Q_callv (as := [.int i3]) (b := 72) (rest := []) zm_99 (Or.inl (by decide)) D99_48 zc_9_214 rfl zk_72.1 (by decide) (by decide +kernel) (by decide) (by simp [zcat, Value.category]) zm_69 rfl

theorem b99_151 {d : Nat} {i1 : Int32} {i2 : Int32} {a3 : Option Value} {a4 : Option Value} {s0 : Int32} {ia : Nat → Nat → Int32} {la : Nat → Nat → Int64} {pl dr : Nat} {cp : Option Nat} {cw : Option Nat} {rp : Option Nat} {K : Option Value → zHP → Prop}  : zWP d 99 151 [some (.ref 0), some (.int i1), some (.int i2), a3, a4] [.int s0] (ia, la, zRA pl dr cp cw rp) K = (if s0 = 0 then K (some (.int (-2 : Int32))) (ia, la, zRA pl dr cp cw rp) else (vp_in i1 6 ∧ K (some (.int (ia 125 (i1).toNatClampNeg))) (ia, la, zRA pl dr cp cw rp))) := by
  refine (Q_if_eq (tgt := 166) zm_99 (Or.inl (by decide)) D99_151 (by decide)).trans ?_
  refine zif_c (fun h0_ => ?_) (fun h0_ => ?_)
  · refine (Q_bipush (v := -2) zm_99 (Or.inl (by decide)) D99_166 (by decide)).trans ?_
    exact Q_ireturn zm_99 (Or.inl (by decide)) D99_168 rfl
  · refine (Q_aload_n zm_99 (Or.inl (by decide)) D99_154 rfl).trans ?_
    refine (Q_getR (q := 115) zm_99 (Or.inl (by decide)) D99_155 zf_9_65 zs_9_10 zk_0.1 rfl).trans ?_
    refine (Q_getR (q := 125) zm_99 (Or.inl (by decide)) D99_158 zf_9_265 zs_2_2 zk_115.1 rfl).trans ?_
    refine (Q_iload_n zm_99 (Or.inl (by decide)) D99_161 rfl).trans ?_
    refine (Q_iaload zm_99 (Or.inl (by decide)) D99_162 zk_125.1 zk_125.2).trans ?_
    refine zand_c (fun h1_ => ?_)
    refine (Q_goto (tgt := 168) zm_99 (Or.inl (by decide)) D99_163 (by decide)).trans ?_
    exact Q_ireturn zm_99 (Or.inl (by decide)) D99_168 rfl

theorem b99_58 {d : Nat} {i1 : Int32} {i2 : Int32} {i3 : Int32} {a4 : Option Value} {ia : Nat → Nat → Int32} {la : Nat → Nat → Int64} {pl dr : Nat} {cp : Option Nat} {cw : Option Nat} {rp : Option Nat} {K : Option Value → zHP → Prop}  : zWP d 99 58 [some (.ref 0), some (.int i1), some (.int i2), some (.int i3), a4] [] (ia, la, zRA pl dr cp cw rp) K = zWP d 99 59 [some (.ref 0), some (.int i1), some (.int i2), some (.int i3), a4] [.int (0 : Int32)] (ia, la, zRA pl dr cp cw rp) K := by
  refine (Q_iconst (v := 0) zm_99 (Or.inl (by decide)) D99_58 (by decide)).trans ?_
  rfl

theorem b99_51 {d : Nat} {i1 : Int32} {i2 : Int32} {i3 : Int32} {a4 : Option Value} {s0 : Int32} {ia : Nat → Nat → Int32} {la : Nat → Nat → Int64} {pl dr : Nat} {cp : Option Nat} {cw : Option Nat} {rp : Option Nat} {K : Option Value → zHP → Prop}  : zWP d 99 51 [some (.ref 0), some (.int i1), some (.int i2), some (.int i3), a4] [.int s0] (ia, la, zRA pl dr cp cw rp) K = (if ¬ s0 = 0 then zWP d 99 58 [some (.ref 0), some (.int i1), some (.int i2), some (.int i3), a4] [] (ia, la, zRA pl dr cp cw rp) K else zWP d 99 59 [some (.ref 0), some (.int i1), some (.int i2), some (.int i3), a4] [.int (1 : Int32)] (ia, la, zRA pl dr cp cw rp) K) := by
  refine (Q_if_ne (tgt := 58) zm_99 (Or.inl (by decide)) D99_51 (by decide)).trans ?_
  refine zif_c (fun h0_ => ?_) (fun h0_ => ?_)
  · rfl
  · refine (Q_iconst (v := 1) zm_99 (Or.inl (by decide)) D99_54 (by decide)).trans ?_
    refine (Q_goto (tgt := 59) zm_99 (Or.inl (by decide)) D99_55 (by decide)).trans ?_
    rfl

theorem b99_59 {d : Nat} {i1 : Int32} {i2 : Int32} {i3 : Int32} {a4 : Option Value} {s0 : Int32} {ia : Nat → Nat → Int32} {la : Nat → Nat → Int64} {pl dr : Nat} {cp : Option Nat} {cw : Option Nat} {rp : Option Nat} {K : Option Value → zHP → Prop}  : zWP (d + 1) 99 59 [some (.ref 0), some (.int i1), some (.int i2), some (.int i3), a4] [.int s0] (ia, la, zRA pl dr cp cw rp) K = (if s0 = 0 then zWM d 14 [.ref 115, .int i2, .int i3, .int (-1 : Int32)] (ia, la, zRA pl dr cp cw rp) (zK (d + 1) 99 92 [some (.ref 0), some (.int i1), some (.int i2), some (.int i3), some (.int s0)] [] K) else zWM d 95 [.ref 0, .ref 74, .int i3, .int i2] (ia, la, zRA pl dr cp cw rp) (zK (d + 1) 99 85 [some (.ref 0), some (.int i1), some (.int i2), some (.int i3), some (.int s0)] [.int i3, .int i2, .ref 115] K)) := by
  refine (Q_istore (ls' := [some (.ref 0), some (.int i1), some (.int i2), some (.int i3), some (.int s0)]) zm_99 (Or.inl (by decide)) D99_59 rfl (Nat.le_of_ble_eq_true rfl) rfl).trans ?_
  refine (Q_aload_n zm_99 (Or.inl (by decide)) D99_61 rfl).trans ?_
  refine (Q_getR (q := 115) zm_99 (Or.inl (by decide)) D99_62 zf_9_65 zs_9_10 zk_0.1 rfl).trans ?_
  refine (Q_iload_n zm_99 (Or.inl (by decide)) D99_65 rfl).trans ?_
  refine (Q_iload_n zm_99 (Or.inl (by decide)) D99_66 rfl).trans ?_
  refine (Q_iload zm_99 (Or.inl (by decide)) D99_67 rfl).trans ?_
  refine (Q_if_eq (tgt := 88) zm_99 (Or.inl (by decide)) D99_69 (by decide)).trans ?_
  refine zif_c (fun h0_ => ?_) (fun h0_ => ?_)
  · refine (Q_iconst (v := -1) zm_99 (Or.inl (by decide)) D99_88 (by decide)).trans ?_
    exact Q_callv (as := [.int i2, .int i3, .int (-1 : Int32)]) (b := 115) (rest := []) zm_99 (Or.inl (by decide)) D99_89 zc_9_252 rfl zk_115.1 (by decide) (by decide +kernel) (by decide) (by simp [zcat, Value.category]) zm_14 rfl
  · refine (Q_aload_n zm_99 (Or.inl (by decide)) D99_72 rfl).trans ?_
    refine (Q_aload_n zm_99 (Or.inl (by decide)) D99_73 rfl).trans ?_
    refine (Q_getR (q := 72) zm_99 (Or.inl (by decide)) D99_74 zf_9_31 zs_9_3 zk_0.1 rfl).trans ?_
    refine (Q_getR (q := 74) zm_99 (Or.inl (by decide)) D99_77 zf_9_129 zs_8_3 zk_72.1 rfl).trans ?_
    refine (Q_iload_n zm_99 (Or.inl (by decide)) D99_80 rfl).trans ?_
    refine (Q_iload_n zm_99 (Or.inl (by decide)) D99_81 rfl).trans ?_
    exact Q_callv (as := [.ref 74, .int i3, .int i2]) (b := 0) (rest := [.int i3, .int i2, .ref 115]) zm_99 (Or.inl (by decide)) D99_82 zc_9_220 rfl zk_0.1 (by decide) (by decide +kernel) (by decide) (by simp [zcat, Value.category]) zm_95 rfl

theorem b99_92 {d : Nat} {i1 : Int32} {i2 : Int32} {i3 : Int32} {i4 : Int32} {ia : Nat → Nat → Int32} {la : Nat → Nat → Int64} {pl dr : Nat} {cp : Option Nat} {cw : Option Nat} {rp : Option Nat} {K : Option Value → zHP → Prop}  : zWP d 99 92 [some (.ref 0), some (.int i1), some (.int i2), some (.int i3), some (.int i4)] [] (ia, la, zRA pl dr cp cw rp) K = zWP d 99 27 [some (.ref 0), some (.int i1), some (.int i2), some (.int (i3 + (1 : Int32))), some (.int i4)] [] (ia, la, zRA pl dr cp cw rp) K := by
  refine (Q_iinc (v := 1) (ls' := [some (.ref 0), some (.int i1), some (.int i2), some (.int (i3 + (1 : Int32))), some (.int i4)]) zm_99 (Or.inl (by decide)) D99_92 rfl rfl (by decide) rfl).trans ?_
  refine (Q_goto (tgt := 27) zm_99 (Or.inl (by decide)) D99_95 (by decide)).trans ?_
  rfl

theorem b99_85 {d : Nat} {i1 : Int32} {i2 : Int32} {i3 : Int32} {i4 : Int32} {s1 : Int32} {s2 : Int32} {s3 : Int32} {ia : Nat → Nat → Int32} {la : Nat → Nat → Int64} {pl dr : Nat} {cp : Option Nat} {cw : Option Nat} {rp : Option Nat} {K : Option Value → zHP → Prop}  : zWP (d + 1) 99 85 [some (.ref 0), some (.int i1), some (.int i2), some (.int i3), some (.int i4)] [.int s3, .int s2, .int s1, .ref 115] (ia, la, zRA pl dr cp cw rp) K = zWM d 14 [.ref 115, .int s1, .int s2, .int s3] (ia, la, zRA pl dr cp cw rp) (zK (d + 1) 99 92 [some (.ref 0), some (.int i1), some (.int i2), some (.int i3), some (.int i4)] [] K) := by
  refine (Q_goto (tgt := 89) zm_99 (Or.inl (by decide)) D99_85 (by decide)).trans ?_
  exact Q_callv (as := [.int s1, .int s2, .int s3]) (b := 115) (rest := []) zm_99 (Or.inl (by decide)) D99_89 zc_9_252 rfl zk_115.1 (by decide) (by decide +kernel) (by decide) (by simp [zcat, Value.category]) zm_14 rfl

/-! HandsLet.auction(II)I -/
theorem D100_0 : decode prog_1_method_27_code 0 = .ok (.aload_n 0, 1) := by decide +kernel
theorem D100_1 : decode prog_1_method_27_code 1 = .ok (.iload_n 1, 1) := by decide +kernel
theorem D100_2 : decode prog_1_method_27_code 2 = .ok (.invokevirtual 122, 3) := by decide +kernel
theorem D100_5 : decode prog_1_method_27_code 5 = .ok (.ifCond .eq 12, 3) := by decide +kernel
theorem D100_8 : decode prog_1_method_27_code 8 = .ok (.iload_n 2, 1) := by decide +kernel
theorem D100_9 : decode prog_1_method_27_code 9 = .ok (.ifCond .lt 8, 3) := by decide +kernel
theorem D100_12 : decode prog_1_method_27_code 12 = .ok (.iload_n 2, 1) := by decide +kernel
theorem D100_13 : decode prog_1_method_27_code 13 = .ok (.iconst 1, 1) := by decide +kernel
theorem D100_14 : decode prog_1_method_27_code 14 = .ok (.if_icmp .le 5, 3) := by decide +kernel
theorem D100_17 : decode prog_1_method_27_code 17 = .ok (.iconst (-1), 1) := by decide +kernel
theorem D100_18 : decode prog_1_method_27_code 18 = .ok (.ireturn, 1) := by decide +kernel
theorem D100_19 : decode prog_1_method_27_code 19 = .ok (.aload_n 0, 1) := by decide +kernel
theorem D100_20 : decode prog_1_method_27_code 20 = .ok (.iload_n 1, 1) := by decide +kernel
theorem D100_21 : decode prog_1_method_27_code 21 = .ok (.iload_n 1, 1) := by decide +kernel
theorem D100_22 : decode prog_1_method_27_code 22 = .ok (.invokevirtual 268, 3) := by decide +kernel
theorem D100_25 : decode prog_1_method_27_code 25 = .ok (.istore_n 3, 1) := by decide +kernel
theorem D100_26 : decode prog_1_method_27_code 26 = .ok (.iload_n 3, 1) := by decide +kernel
theorem D100_27 : decode prog_1_method_27_code 27 = .ok (.iconst (-1), 1) := by decide +kernel
theorem D100_28 : decode prog_1_method_27_code 28 = .ok (.if_icmp .ne 6, 3) := by decide +kernel
theorem D100_31 : decode prog_1_method_27_code 31 = .ok (.bipush (-2), 2) := by decide +kernel
theorem D100_33 : decode prog_1_method_27_code 33 = .ok (.ireturn, 1) := by decide +kernel
theorem D100_34 : decode prog_1_method_27_code 34 = .ok (.iload_n 2, 1) := by decide +kernel
theorem D100_35 : decode prog_1_method_27_code 35 = .ok (.ifCond .ne 5, 3) := by decide +kernel
theorem D100_38 : decode prog_1_method_27_code 38 = .ok (.iload_n 3, 1) := by decide +kernel
theorem D100_39 : decode prog_1_method_27_code 39 = .ok (.ireturn, 1) := by decide +kernel
theorem D100_40 : decode prog_1_method_27_code 40 = .ok (.aload_n 0, 1) := by decide +kernel
theorem D100_41 : decode prog_1_method_27_code 41 = .ok (.iload_n 1, 1) := by decide +kernel
theorem D100_42 : decode prog_1_method_27_code 42 = .ok (.iload_n 3, 1) := by decide +kernel
theorem D100_43 : decode prog_1_method_27_code 43 = .ok (.invokevirtual 268, 3) := by decide +kernel
theorem D100_46 : decode prog_1_method_27_code 46 = .ok (.istore 4, 2) := by decide +kernel
theorem D100_48 : decode prog_1_method_27_code 48 = .ok (.iload 4, 2) := by decide +kernel
theorem D100_50 : decode prog_1_method_27_code 50 = .ok (.iconst (-1), 1) := by decide +kernel
theorem D100_51 : decode prog_1_method_27_code 51 = .ok (.if_icmp .ne 7, 3) := by decide +kernel
theorem D100_54 : decode prog_1_method_27_code 54 = .ok (.iconst 0, 1) := by decide +kernel
theorem D100_55 : decode prog_1_method_27_code 55 = .ok (.goto 10, 3) := by decide +kernel
theorem D100_58 : decode prog_1_method_27_code 58 = .ok (.aload_n 0, 1) := by decide +kernel
theorem D100_59 : decode prog_1_method_27_code 59 = .ok (.iload_n 1, 1) := by decide +kernel
theorem D100_60 : decode prog_1_method_27_code 60 = .ok (.iload 4, 2) := by decide +kernel
theorem D100_62 : decode prog_1_method_27_code 62 = .ok (.invokevirtual 272, 3) := by decide +kernel
theorem D100_65 : decode prog_1_method_27_code 65 = .ok (.ireturn, 1) := by decide +kernel

theorem b100_0 {d : Nat} {i1 : Int32} {i2 : Int32} {ia : Nat → Nat → Int32} {la : Nat → Nat → Int64} {pl dr : Nat} {cp : Option Nat} {cw : Option Nat} {rp : Option Nat} {K : Option Value → zHP → Prop}  : zWP (d + 1) 100 0 [some (.ref 0), some (.int i1), some (.int i2), none, none] [] (ia, la, zRA pl dr cp cw rp) K = zWM d 80 [.ref 0, .int i1] (ia, la, zRA pl dr cp cw rp) (zK (d + 1) 100 5 [some (.ref 0), some (.int i1), some (.int i2), none, none] [] K) := by
  refine (Q_aload_n zm_100 (Or.inl (by decide)) D100_0 rfl).trans ?_
  refine (Q_iload_n zm_100 (Or.inl (by decide)) D100_1 rfl).trans ?_
  exact Q_callv (as := [.int i1]) (b := 0) (rest := []) zm_100 (Or.inl (by decide)) D100_2 zc_9_122 rfl zk_0.1 (by decide) (by decide +kernel) (by decide) (by simp [zcat, Value.category]) zm_80 rfl

theorem b100_5 {d : Nat} {i1 : Int32} {i2 : Int32} {s0 : Int32} {ia : Nat → Nat → Int32} {la : Nat → Nat → Int64} {pl dr : Nat} {cp : Option Nat} {cw : Option Nat} {rp : Option Nat} {K : Option Value → zHP → Prop}  : zWP (d + 1) 100 5 [some (.ref 0), some (.int i1), some (.int i2), none, none] [.int s0] (ia, la, zRA pl dr cp cw rp) K = (if s0 = 0 then K (some (.int (-1 : Int32))) (ia, la, zRA pl dr cp cw rp) else (if i2 < 0 then K (some (.int (-1 : Int32))) (ia, la, zRA pl dr cp cw rp) else (if i2 ≤ (1 : Int32) then zWM d 101 [.ref 0, .int i1, .int i1] (ia, la, zRA pl dr cp cw rp) (zK (d + 1) 100 25 [some (.ref 0), some (.int i1), some (.int i2), none, none] [] K) else K (some (.int (-1 : Int32))) (ia, la, zRA pl dr cp cw rp)))) := by
  refine (Q_if_eq (tgt := 17) zm_100 (Or.inl (by decide)) D100_5 (by decide)).trans ?_
  refine zif_c (fun h0_ => ?_) (fun h0_ => ?_)
  · refine (Q_iconst (v := -1) zm_100 (Or.inl (by decide)) D100_17 (by decide)).trans ?_
    exact Q_ireturn zm_100 (Or.inl (by decide)) D100_18 rfl
  · refine (Q_iload_n zm_100 (Or.inl (by decide)) D100_8 rfl).trans ?_
    refine (Q_if_lt (tgt := 17) zm_100 (Or.inl (by decide)) D100_9 (by decide)).trans ?_
    refine zif_c (fun h1_ => ?_) (fun h1_ => ?_)
    · refine (Q_iconst (v := -1) zm_100 (Or.inl (by decide)) D100_17 (by decide)).trans ?_
      exact Q_ireturn zm_100 (Or.inl (by decide)) D100_18 rfl
    · refine (Q_iload_n zm_100 (Or.inl (by decide)) D100_12 rfl).trans ?_
      refine (Q_iconst (v := 1) zm_100 (Or.inl (by decide)) D100_13 (by decide)).trans ?_
      refine (Q_ic_le (tgt := 19) zm_100 (Or.inl (by decide)) D100_14 (by decide)).trans ?_
      refine zif_c (fun h2_ => ?_) (fun h2_ => ?_)
      · refine (Q_aload_n zm_100 (Or.inl (by decide)) D100_19 rfl).trans ?_
        refine (Q_iload_n zm_100 (Or.inl (by decide)) D100_20 rfl).trans ?_
        refine (Q_iload_n zm_100 (Or.inl (by decide)) D100_21 rfl).trans ?_
        exact Q_callv (as := [.int i1, .int i1]) (b := 0) (rest := []) zm_100 (Or.inl (by decide)) D100_22 zc_9_268 rfl zk_0.1 (by decide) (by decide +kernel) (by decide) (by simp [zcat, Value.category]) zm_101 rfl
      · refine (Q_iconst (v := -1) zm_100 (Or.inl (by decide)) D100_17 (by decide)).trans ?_
        exact Q_ireturn zm_100 (Or.inl (by decide)) D100_18 rfl

theorem b100_25 {d : Nat} {i1 : Int32} {i2 : Int32} {s0 : Int32} {ia : Nat → Nat → Int32} {la : Nat → Nat → Int64} {pl dr : Nat} {cp : Option Nat} {cw : Option Nat} {rp : Option Nat} {K : Option Value → zHP → Prop}  : zWP (d + 1) 100 25 [some (.ref 0), some (.int i1), some (.int i2), none, none] [.int s0] (ia, la, zRA pl dr cp cw rp) K = (if ¬ s0 = (-1 : Int32) then (if ¬ i2 = 0 then zWM d 101 [.ref 0, .int i1, .int s0] (ia, la, zRA pl dr cp cw rp) (zK (d + 1) 100 46 [some (.ref 0), some (.int i1), some (.int i2), some (.int s0), none] [] K) else K (some (.int s0)) (ia, la, zRA pl dr cp cw rp)) else K (some (.int (-2 : Int32))) (ia, la, zRA pl dr cp cw rp)) := by
  refine (Q_istore_n (ls' := [some (.ref 0), some (.int i1), some (.int i2), some (.int s0), none]) zm_100 (Or.inl (by decide)) D100_25 rfl (Nat.le_of_ble_eq_true rfl) rfl).trans ?_
  refine (Q_iload_n zm_100 (Or.inl (by decide)) D100_26 rfl).trans ?_
  refine (Q_iconst (v := -1) zm_100 (Or.inl (by decide)) D100_27 (by decide)).trans ?_
  refine (Q_ic_ne (tgt := 34) zm_100 (Or.inl (by decide)) D100_28 (by decide)).trans ?_
  refine zif_c (fun h0_ => ?_) (fun h0_ => ?_)
  · refine (Q_iload_n zm_100 (Or.inl (by decide)) D100_34 rfl).trans ?_
    refine (Q_if_ne (tgt := 40) zm_100 (Or.inl (by decide)) D100_35 (by decide)).trans ?_
    refine zif_c (fun h1_ => ?_) (fun h1_ => ?_)
    · refine (Q_aload_n zm_100 (Or.inl (by decide)) D100_40 rfl).trans ?_
      refine (Q_iload_n zm_100 (Or.inl (by decide)) D100_41 rfl).trans ?_
      refine (Q_iload_n zm_100 (Or.inl (by decide)) D100_42 rfl).trans ?_
      exact Q_callv (as := [.int i1, .int s0]) (b := 0) (rest := []) zm_100 (Or.inl (by decide)) D100_43 zc_9_268 rfl zk_0.1 (by decide) (by decide +kernel) (by decide) (by simp [zcat, Value.category]) zm_101 rfl
    · refine (Q_iload_n zm_100 (Or.inl (by decide)) D100_38 rfl).trans ?_
      exact Q_ireturn zm_100 (Or.inl (by decide)) D100_39 rfl
  · refine (Q_bipush (v := -2) zm_100 (Or.inl (by decide)) D100_31 (by decide)).trans ?_
    exact Q_ireturn zm_100 (Or.inl (by decide)) D100_33 rfl

theorem b100_46 {d : Nat} {i1 : Int32} {i2 : Int32} {i3 : Int32} {s0 : Int32} {ia : Nat → Nat → Int32} {la : Nat → Nat → Int64} {pl dr : Nat} {cp : Option Nat} {cw : Option Nat} {rp : Option Nat} {K : Option Value → zHP → Prop}  : zWP (d + 1) 100 46 [some (.ref 0), some (.int i1), some (.int i2), some (.int i3), none] [.int s0] (ia, la, zRA pl dr cp cw rp) K = (if ¬ s0 = (-1 : Int32) then zWM d 102 [.ref 0, .int i1, .int s0] (ia, la, zRA pl dr cp cw rp) (zK (d + 1) 100 65 [some (.ref 0), some (.int i1), some (.int i2), some (.int i3), some (.int s0)] [] K) else K (some (.int (0 : Int32))) (ia, la, zRA pl dr cp cw rp)) := by
  refine (Q_istore (ls' := [some (.ref 0), some (.int i1), some (.int i2), some (.int i3), some (.int s0)]) zm_100 (Or.inl (by decide)) D100_46 rfl (Nat.le_of_ble_eq_true rfl) rfl).trans ?_
  refine (Q_iload zm_100 (Or.inl (by decide)) D100_48 rfl).trans ?_
  refine (Q_iconst (v := -1) zm_100 (Or.inl (by decide)) D100_50 (by decide)).trans ?_
  refine (Q_ic_ne (tgt := 58) zm_100 (Or.inl (by decide)) D100_51 (by decide)).trans ?_
  refine zif_c (fun h0_ => ?_) (fun h0_ => ?_)
  · refine (Q_aload_n zm_100 (Or.inl (by decide)) D100_58 rfl).trans ?_
    refine (Q_iload_n zm_100 (Or.inl (by decide)) D100_59 rfl).trans ?_
    refine (Q_iload zm_100 (Or.inl (by decide)) D100_60 rfl).trans ?_
    exact Q_callv (as := [.int i1, .int s0]) (b := 0) (rest := []) zm_100 (Or.inl (by decide)) D100_62 zc_9_272 rfl zk_0.1 (by decide) (by decide +kernel) (by decide) (by simp [zcat, Value.category]) zm_102 rfl
  · refine (Q_iconst (v := 0) zm_100 (Or.inl (by decide)) D100_54 (by decide)).trans ?_
    refine (Q_goto (tgt := 65) zm_100 (Or.inl (by decide)) D100_55 (by decide)).trans ?_
    exact Q_ireturn zm_100 (Or.inl (by decide)) D100_65 rfl

theorem b100_65 {d : Nat} {i1 : Int32} {i2 : Int32} {i3 : Int32} {i4 : Int32} {s0 : Int32} {ia : Nat → Nat → Int32} {la : Nat → Nat → Int64} {pl dr : Nat} {cp : Option Nat} {cw : Option Nat} {rp : Option Nat} {K : Option Value → zHP → Prop}  : zWP d 100 65 [some (.ref 0), some (.int i1), some (.int i2), some (.int i3), some (.int i4)] [.int s0] (ia, la, zRA pl dr cp cw rp) K = K (some (.int s0)) (ia, la, zRA pl dr cp cw rp) := by
  exact Q_ireturn zm_100 (Or.inl (by decide)) D100_65 rfl

/-! HandsLet.highestBidder(II)I -/
theorem D101_0 : decode prog_1_method_28_code 0 = .ok (.iconst (-1), 1) := by decide +kernel
theorem D101_1 : decode prog_1_method_28_code 1 = .ok (.istore_n 3, 1) := by decide +kernel
theorem D101_2 : decode prog_1_method_28_code 2 = .ok (.iconst 0, 1) := by decide +kernel
theorem D101_3 : decode prog_1_method_28_code 3 = .ok (.istore 4, 2) := by decide +kernel
theorem D101_5 : decode prog_1_method_28_code 5 = .ok (.iload 4, 2) := by decide +kernel
theorem D101_7 : decode prog_1_method_28_code 7 = .ok (.aload_n 0, 1) := by decide +kernel
theorem D101_8 : decode prog_1_method_28_code 8 = .ok (.getfield 21, 3) := by decide +kernel
theorem D101_11 : decode prog_1_method_28_code 11 = .ok (.getfield 116, 3) := by decide +kernel
theorem D101_14 : decode prog_1_method_28_code 14 = .ok (.if_icmp .ge 48, 3) := by decide +kernel
theorem D101_17 : decode prog_1_method_28_code 17 = .ok (.iload 4, 2) := by decide +kernel
theorem D101_19 : decode prog_1_method_28_code 19 = .ok (.iload_n 1, 1) := by decide +kernel
theorem D101_20 : decode prog_1_method_28_code 20 = .ok (.if_icmp .eq 36, 3) := by decide +kernel
theorem D101_23 : decode prog_1_method_28_code 23 = .ok (.iload 4, 2) := by decide +kernel
theorem D101_25 : decode prog_1_method_28_code 25 = .ok (.iload_n 2, 1) := by decide +kernel
theorem D101_26 : decode prog_1_method_28_code 26 = .ok (.if_icmp .ne 6, 3) := by decide +kernel
theorem D101_29 : decode prog_1_method_28_code 29 = .ok (.goto 27, 3) := by decide +kernel
theorem D101_32 : decode prog_1_method_28_code 32 = .ok (.iload_n 3, 1) := by decide +kernel
theorem D101_33 : decode prog_1_method_28_code 33 = .ok (.iconst (-1), 1) := by decide +kernel
theorem D101_34 : decode prog_1_method_28_code 34 = .ok (.if_icmp .eq 19, 3) := by decide +kernel
theorem D101_37 : decode prog_1_method_28_code 37 = .ok (.aload_n 0, 1) := by decide +kernel
theorem D101_38 : decode prog_1_method_28_code 38 = .ok (.iload_n 1, 1) := by decide +kernel
theorem D101_39 : decode prog_1_method_28_code 39 = .ok (.iload 4, 2) := by decide +kernel
theorem D101_41 : decode prog_1_method_28_code 41 = .ok (.invokevirtual 272, 3) := by decide +kernel
theorem D101_44 : decode prog_1_method_28_code 44 = .ok (.aload_n 0, 1) := by decide +kernel
theorem D101_45 : decode prog_1_method_28_code 45 = .ok (.iload_n 1, 1) := by decide +kernel
theorem D101_46 : decode prog_1_method_28_code 46 = .ok (.iload_n 3, 1) := by decide +kernel
theorem D101_47 : decode prog_1_method_28_code 47 = .ok (.invokevirtual 272, 3) := by decide +kernel
theorem D101_50 : decode prog_1_method_28_code 50 = .ok (.if_icmp .le 6, 3) := by decide +kernel
theorem D101_53 : decode prog_1_method_28_code 53 = .ok (.iload 4, 2) := by decide +kernel
theorem D101_55 : decode prog_1_method_28_code 55 = .ok (.istore_n 3, 1) := by decide +kernel
theorem D101_56 : decode prog_1_method_28_code 56 = .ok (.iinc 4 1, 3) := by decide +kernel
theorem D101_59 : decode prog_1_method_28_code 59 = .ok (.goto (-54), 3) := by decide +kernel
theorem D101_62 : decode prog_1_method_28_code 62 = .ok (.iload_n 3, 1) := by decide +kernel
theorem D101_63 : decode prog_1_method_28_code 63 = .ok (.ireturn, 1) := by decide +kernel

theorem b101_0 {d : Nat} {i1 : Int32} {i2 : Int32} {ia : Nat → Nat → Int32} {la : Nat → Nat → Int64} {pl dr : Nat} {cp : Option Nat} {cw : Option Nat} {rp : Option Nat} {K : Option Value → zHP → Prop}  : zWP d 101 0 [some (.ref 0), some (.int i1), some (.int i2), none, none] [] (ia, la, zRA pl dr cp cw rp) K = zWP d 101 5 [some (.ref 0), some (.int i1), some (.int i2), some (.int (-1 : Int32)), some (.int (0 : Int32))] [] (ia, la, zRA pl dr cp cw rp) K := by
  refine (Q_iconst (v := -1) zm_101 (Or.inl (by decide)) D101_0 (by decide)).trans ?_
  refine (Q_istore_n (ls' := [some (.ref 0), some (.int i1), some (.int i2), some (.int (-1 : Int32)), none]) zm_101 (Or.inl (by decide)) D101_1 rfl (Nat.le_of_ble_eq_true rfl) rfl).trans ?_
  refine (Q_iconst (v := 0) zm_101 (Or.inl (by decide)) D101_2 (by decide)).trans ?_
  refine (Q_istore (ls' := [some (.ref 0), some (.int i1), some (.int i2), some (.int (-1 : Int32)), some (.int (0 : Int32))]) zm_101 (Or.inl (by decide)) D101_3 rfl (Nat.le_of_ble_eq_true rfl) rfl).trans ?_
  rfl

theorem b101_5 {d : Nat} {i1 : Int32} {i2 : Int32} {i3 : Int32} {i4 : Int32} {ia : Nat → Nat → Int32} {la : Nat → Nat → Int64} {pl dr : Nat} {cp : Option Nat} {cw : Option Nat} {rp : Option Nat} {K : Option Value → zHP → Prop} (hpl : zIsP pl) : zWP (d + 1) 101 5 [some (.ref 0), some (.int i1), some (.int i2), some (.int i3), some (.int i4)] [] (ia, la, zRA pl dr cp cw rp) K = (if (ia pl 1) ≤ i4 then K (some (.int i3)) (ia, la, zRA pl dr cp cw rp) else (if i4 = i1 then zWP (d + 1) 101 5 [some (.ref 0), some (.int i1), some (.int i2), some (.int i3), some (.int (i4 + (1 : Int32)))] [] (ia, la, zRA pl dr cp cw rp) K else (if ¬ i4 = i2 then (if i3 = (-1 : Int32) then zWP (d + 1) 101 5 [some (.ref 0), some (.int i1), some (.int i2), some (.int i4), some (.int (i4 + (1 : Int32)))] [] (ia, la, zRA pl dr cp cw rp) K else zWM d 102 [.ref 0, .int i1, .int i4] (ia, la, zRA pl dr cp cw rp) (zK (d + 1) 101 44 [some (.ref 0), some (.int i1), some (.int i2), some (.int i3), some (.int i4)] [] K)) else zWP (d + 1) 101 5 [some (.ref 0), some (.int i1), some (.int i2), some (.int i3), some (.int (i4 + (1 : Int32)))] [] (ia, la, zRA pl dr cp cw rp) K))) := by
  refine (Q_iload zm_101 (Or.inl (by decide)) D101_5 rfl).trans ?_
  refine (Q_aload_n zm_101 (Or.inl (by decide)) D101_7 rfl).trans ?_
  refine (Q_getR (q := pl) zm_101 (Or.inl (by decide)) D101_8 zf_9_21 zs_9_1 zk_0.1 rfl).trans ?_
  refine (Q_getI zm_101 (Or.inl (by decide)) D101_11 zf_9_116 (Or.inl zs_3_1) (zkp_0 hpl).1).trans ?_
  refine (Q_ic_ge (tgt := 62) zm_101 (Or.inl (by decide)) D101_14 (by decide)).trans ?_
  refine zif_c (fun h0_ => ?_) (fun h0_ => ?_)
  · refine (Q_iload_n zm_101 (Or.inl (by decide)) D101_62 rfl).trans ?_
    exact Q_ireturn zm_101 (Or.inl (by decide)) D101_63 rfl
  · refine (Q_iload zm_101 (Or.inl (by decide)) D101_17 rfl).trans ?_
    refine (Q_iload_n zm_101 (Or.inl (by decide)) D101_19 rfl).trans ?_
    refine (Q_ic_eq (tgt := 56) zm_101 (Or.inl (by decide)) D101_20 (by decide)).trans ?_
    refine zif_c (fun h1_ => ?_) (fun h1_ => ?_)
    · refine (Q_iinc (v := 1) (ls' := [some (.ref 0), some (.int i1), some (.int i2), some (.int i3), some (.int (i4 + (1 : Int32)))]) zm_101 (Or.inl (by decide)) D101_56 rfl rfl (by decide) rfl).trans ?_
      refine (Q_goto (tgt := 5) zm_101 (Or.inl (by decide)) D101_59 (by decide)).trans ?_
      rfl
    · refine (Q_iload zm_101 (Or.inl (by decide)) D101_23 rfl).trans ?_
      refine (Q_iload_n zm_101 (Or.inl (by decide)) D101_25 rfl).trans ?_
      refine (Q_ic_ne (tgt := 32) zm_101 (Or.inl (by decide)) D101_26 (by decide)).trans ?_
      refine zif_c (fun h2_ => ?_) (fun h2_ => ?_)
      · refine (Q_iload_n zm_101 (Or.inl (by decide)) D101_32 rfl).trans ?_
        refine (Q_iconst (v := -1) zm_101 (Or.inl (by decide)) D101_33 (by decide)).trans ?_
        refine (Q_ic_eq (tgt := 53) zm_101 (Or.inl (by decide)) D101_34 (by decide)).trans ?_
        refine zif_c (fun h3_ => ?_) (fun h3_ => ?_)
        · refine (Q_iload zm_101 (Or.inl (by decide)) D101_53 rfl).trans ?_
          refine (Q_istore_n (ls' := [some (.ref 0), some (.int i1), some (.int i2), some (.int i4), some (.int i4)]) zm_101 (Or.inl (by decide)) D101_55 rfl (Nat.le_of_ble_eq_true rfl) rfl).trans ?_
          refine (Q_iinc (v := 1) (ls' := [some (.ref 0), some (.int i1), some (.int i2), some (.int i4), some (.int (i4 + (1 : Int32)))]) zm_101 (Or.inl (by decide)) D101_56 rfl rfl (by decide) rfl).trans ?_
          refine (Q_goto (tgt := 5) zm_101 (Or.inl (by decide)) D101_59 (by decide)).trans ?_
          rfl
        · refine (Q_aload_n zm_101 (Or.inl (by decide)) D101_37 rfl).trans ?_
          refine (Q_iload_n zm_101 (Or.inl (by decide)) D101_38 rfl).trans ?_
          refine (Q_iload zm_101 (Or.inl (by decide)) D101_39 rfl).trans ?_
          exact Q_callv (as := [.int i1, .int i4]) (b := 0) (rest := []) zm_101 (Or.inl (by decide)) D101_41 zc_9_272 rfl zk_0.1 (by decide) (by decide +kernel) (by decide) (by simp [zcat, Value.category]) zm_102 rfl
      · refine (Q_goto (tgt := 56) zm_101 (Or.inl (by decide)) D101_29 (by decide)).trans ?_
        refine (Q_iinc (v := 1) (ls' := [some (.ref 0), some (.int i1), some (.int i2), some (.int i3), some (.int (i4 + (1 : Int32)))]) zm_101 (Or.inl (by decide)) D101_56 rfl rfl (by decide) rfl).trans ?_
        refine (Q_goto (tgt := 5) zm_101 (Or.inl (by decide)) D101_59 (by decide)).trans ?_
        rfl

theorem b101_44 {d : Nat} {i1 : Int32} {i2 : Int32} {i3 : Int32} {i4 : Int32} {s0 : Int32} {ia : Nat → Nat → Int32} {la : Nat → Nat → Int64} {pl dr : Nat} {cp : Option Nat} {cw : Option Nat} {rp : Option Nat} {K : Option Value → zHP → Prop}  : zWP (d + 1) 101 44 [some (.ref 0), some (.int i1), some (.int i2), some (.int i3), some (.int i4)] [.int s0] (ia, la, zRA pl dr cp cw rp) K = zWM d 102 [.ref 0, .int i1, .int i3] (ia, la, zRA pl dr cp cw rp) (zK (d + 1) 101 50 [some (.ref 0), some (.int i1), some (.int i2), some (.int i3), some (.int i4)] [.int s0] K) := by
  refine (Q_aload_n zm_101 (Or.inl (by decide)) D101_44 rfl).trans ?_
  refine (Q_iload_n zm_101 (Or.inl (by decide)) D101_45 rfl).trans ?_
  refine (Q_iload_n zm_101 (Or.inl (by decide)) D101_46 rfl).trans ?_
  exact Q_callv (as := [.int i1, .int i3]) (b := 0) (rest := [.int s0]) zm_101 (Or.inl (by decide)) D101_47 zc_9_272 rfl zk_0.1 (by decide) (by decide +kernel) (by decide) (by simp [zcat, Value.category]) zm_102 rfl

theorem b101_50 {d : Nat} {i1 : Int32} {i2 : Int32} {i3 : Int32} {i4 : Int32} {s0 : Int32} {s1 : Int32} {ia : Nat → Nat → Int32} {la : Nat → Nat → Int64} {pl dr : Nat} {cp : Option Nat} {cw : Option Nat} {rp : Option Nat} {K : Option Value → zHP → Prop}  : zWP d 101 50 [some (.ref 0), some (.int i1), some (.int i2), some (.int i3), some (.int i4)] [.int s1, .int s0] (ia, la, zRA pl dr cp cw rp) K = (if s0 ≤ s1 then zWP d 101 5 [some (.ref 0), some (.int i1), some (.int i2), some (.int i3), some (.int (i4 + (1 : Int32)))] [] (ia, la, zRA pl dr cp cw rp) K else zWP d 101 5 [some (.ref 0), some (.int i1), some (.int i2), some (.int i4), some (.int (i4 + (1 : Int32)))] [] (ia, la, zRA pl dr cp cw rp) K) := by
  refine (Q_ic_le (tgt := 56) zm_101 (Or.inl (by decide)) D101_50 (by decide)).trans ?_
  refine zif_c (fun h0_ => ?_) (fun h0_ => ?_)
  · refine (Q_iinc (v := 1) (ls' := [some (.ref 0), some (.int i1), some (.int i2), some (.int i3), some (.int (i4 + (1 : Int32)))]) zm_101 (Or.inl (by decide)) D101_56 rfl rfl (by decide) rfl).trans ?_
    refine (Q_goto (tgt := 5) zm_101 (Or.inl (by decide)) D101_59 (by decide)).trans ?_
    rfl
  · refine (Q_iload zm_101 (Or.inl (by decide)) D101_53 rfl).trans ?_
    refine (Q_istore_n (ls' := [some (.ref 0), some (.int i1), some (.int i2), some (.int i4), some (.int i4)]) zm_101 (Or.inl (by decide)) D101_55 rfl (Nat.le_of_ble_eq_true rfl) rfl).trans ?_
    refine (Q_iinc (v := 1) (ls' := [some (.ref 0), some (.int i1), some (.int i2), some (.int i4), some (.int (i4 + (1 : Int32)))]) zm_101 (Or.inl (by decide)) D101_56 rfl rfl (by decide) rfl).trans ?_
    refine (Q_goto (tgt := 5) zm_101 (Or.inl (by decide)) D101_59 (by decide)).trans ?_
    rfl

/-! HandsLet.bid(II)I -/
theorem D102_0 : decode prog_1_method_29_code 0 = .ok (.bipush 99, 2) := by decide +kernel
theorem D102_2 : decode prog_1_method_29_code 2 = .ok (.aload_n 0, 1) := by decide +kernel
theorem D102_3 : decode prog_1_method_29_code 3 = .ok (.aload_n 0, 1) := by decide +kernel
theorem D102_4 : decode prog_1_method_29_code 4 = .ok (.getfield 31, 3) := by decide +kernel
theorem D102_7 : decode prog_1_method_29_code 7 = .ok (.getfield 129, 3) := by decide +kernel
theorem D102_10 : decode prog_1_method_29_code 10 = .ok (.iload_n 1, 1) := by decide +kernel
theorem D102_11 : decode prog_1_method_29_code 11 = .ok (.iload_n 2, 1) := by decide +kernel
theorem D102_12 : decode prog_1_method_29_code 12 = .ok (.invokevirtual 220, 3) := by decide +kernel
theorem D102_15 : decode prog_1_method_29_code 15 = .ok (.sipush 1000, 3) := by decide +kernel
theorem D102_18 : decode prog_1_method_29_code 18 = .ok (.idiv, 1) := by decide +kernel
theorem D102_19 : decode prog_1_method_29_code 19 = .ok (.isub, 1) := by decide +kernel
theorem D102_20 : decode prog_1_method_29_code 20 = .ok (.istore_n 3, 1) := by decide +kernel
theorem D102_21 : decode prog_1_method_29_code 21 = .ok (.iconst 0, 1) := by decide +kernel
theorem D102_22 : decode prog_1_method_29_code 22 = .ok (.aload_n 0, 1) := by decide +kernel
theorem D102_23 : decode prog_1_method_29_code 23 = .ok (.getfield 31, 3) := by decide +kernel
theorem D102_26 : decode prog_1_method_29_code 26 = .ok (.getfield 148, 3) := by decide +kernel
theorem D102_29 : decode prog_1_method_29_code 29 = .ok (.iload_n 2, 1) := by decide +kernel
theorem D102_30 : decode prog_1_method_29_code 30 = .ok (.iaload, 1) := by decide +kernel
theorem D102_31 : decode prog_1_method_29_code 31 = .ok (.iload_n 3, 1) := by decide +kernel
theorem D102_32 : decode prog_1_method_29_code 32 = .ok (.invokestatic 275, 3) := by decide +kernel
theorem D102_35 : decode prog_1_method_29_code 35 = .ok (.invokestatic 278, 3) := by decide +kernel
theorem D102_38 : decode prog_1_method_29_code 38 = .ok (.ireturn, 1) := by decide +kernel

theorem b102_0 {d : Nat} {i1 : Int32} {i2 : Int32} {ia : Nat → Nat → Int32} {la : Nat → Nat → Int64} {pl dr : Nat} {cp : Option Nat} {cw : Option Nat} {rp : Option Nat} {K : Option Value → zHP → Prop}  : zWP (d + 1) 102 0 [some (.ref 0), some (.int i1), some (.int i2), none] [] (ia, la, zRA pl dr cp cw rp) K = zWM d 95 [.ref 0, .ref 74, .int i1, .int i2] (ia, la, zRA pl dr cp cw rp) (zK (d + 1) 102 15 [some (.ref 0), some (.int i1), some (.int i2), none] [.int (99 : Int32)] K) := by
  refine (Q_bipush (v := 99) zm_102 (Or.inl (by decide)) D102_0 (by decide)).trans ?_
  refine (Q_aload_n zm_102 (Or.inl (by decide)) D102_2 rfl).trans ?_
  refine (Q_aload_n zm_102 (Or.inl (by decide)) D102_3 rfl).trans ?_
  refine (Q_getR (q := 72) zm_102 (Or.inl (by decide)) D102_4 zf_9_31 zs_9_3 zk_0.1 rfl).trans ?_
  refine (Q_getR (q := 74) zm_102 (Or.inl (by decide)) D102_7 zf_9_129 zs_8_3 zk_72.1 rfl).trans ?_
  refine (Q_iload_n zm_102 (Or.inl (by decide)) D102_10 rfl).trans ?_
  refine (Q_iload_n zm_102 (Or.inl (by decide)) D102_11 rfl).trans ?_
  exact Q_callv (as := [.ref 74, .int i1, .int i2]) (b := 0) (rest := [.int (99 : Int32)]) zm_102 (Or.inl (by decide)) D102_12 zc_9_220 rfl zk_0.1 (by decide) (by decide +kernel) (by decide) (by simp [zcat, Value.category]) zm_95 rfl

theorem b102_15 {d : Nat} {i1 : Int32} {i2 : Int32} {s0 : Int32} {s1 : Int32} {ia : Nat → Nat → Int32} {la : Nat → Nat → Int64} {pl dr : Nat} {cp : Option Nat} {cw : Option Nat} {rp : Option Nat} {K : Option Value → zHP → Prop}  : zWP (d + 5) 102 15 [some (.ref 0), some (.int i1), some (.int i2), none] [.int s1, .int s0] (ia, la, zRA pl dr cp cw rp) K = (vp_in i2 6 ∧ K (some (.int (if (0 : Int32) < (if (s0 - (s1 / (1000 : Int32))) < (ia 73 (i2).toNatClampNeg) then (s0 - (s1 / (1000 : Int32))) else (ia 73 (i2).toNatClampNeg)) then (if (s0 - (s1 / (1000 : Int32))) < (ia 73 (i2).toNatClampNeg) then (s0 - (s1 / (1000 : Int32))) else (ia 73 (i2).toNatClampNeg)) else (0 : Int32)))) (ia, la, zRA pl dr cp cw rp)) := by
  refine (Q_sipush (v := 1000) zm_102 (Or.inl (by decide)) D102_15 (by decide)).trans ?_
  refine (Q_idiv zm_102 (Or.inl (by decide)) D102_18 (by decide)).trans ?_
  refine (Q_isub zm_102 (Or.inl (by decide)) D102_19).trans ?_
  refine (Q_istore_n (ls' := [some (.ref 0), some (.int i1), some (.int i2), some (.int (s0 - (s1 / (1000 : Int32))))]) zm_102 (Or.inl (by decide)) D102_20 rfl (Nat.le_of_ble_eq_true rfl) rfl).trans ?_
  refine (Q_iconst (v := 0) zm_102 (Or.inl (by decide)) D102_21 (by decide)).trans ?_
  refine (Q_aload_n zm_102 (Or.inl (by decide)) D102_22 rfl).trans ?_
  refine (Q_getR (q := 72) zm_102 (Or.inl (by decide)) D102_23 zf_9_31 zs_9_3 zk_0.1 rfl).trans ?_
  refine (Q_getR (q := 73) zm_102 (Or.inl (by decide)) D102_26 zf_9_148 zs_8_2 zk_72.1 rfl).trans ?_
  refine (Q_iload_n zm_102 (Or.inl (by decide)) D102_29 rfl).trans ?_
  refine (Q_iaload zm_102 (Or.inl (by decide)) D102_30 zk_73.1 zk_73.2).trans ?_
  refine zand_c (fun h0_ => ?_)
  refine (Q_iload_n zm_102 (Or.inl (by decide)) D102_31 rfl).trans ?_
  refine (Q_bis (as := [.int (ia 73 (i2).toNatClampNeg), .int (s0 - (s1 / (1000 : Int32)))]) (rest := [.int (0 : Int32)]) zm_102 (Or.inl (by decide)) D102_32 zc_9_275 rfl (by decide) (by simp [zcat, Value.category]) rfl).trans ?_
  refine (Q_bis (as := [.int (0 : Int32), .int (if (s0 - (s1 / (1000 : Int32))) < (ia 73 (i2).toNatClampNeg) then (s0 - (s1 / (1000 : Int32))) else (ia 73 (i2).toNatClampNeg))]) (rest := []) zm_102 (Or.inl (by decide)) D102_35 zc_9_278 rfl (by decide) (by simp [zcat, Value.category]) rfl).trans ?_
  exact Q_ireturn zm_102 (Or.inl (by decide)) D102_38 rfl

/-! HandsLet.putOff()I -/
theorem D103_0 : decode prog_1_method_30_code 0 = .ok (.iconst 0, 1) := by decide +kernel
theorem D103_1 : decode prog_1_method_30_code 1 = .ok (.istore_n 1, 1) := by decide +kernel
theorem D103_2 : decode prog_1_method_30_code 2 = .ok (.iconst 0, 1) := by decide +kernel
theorem D103_3 : decode prog_1_method_30_code 3 = .ok (.istore_n 2, 1) := by decide +kernel
theorem D103_4 : decode prog_1_method_30_code 4 = .ok (.iload_n 2, 1) := by decide +kernel
theorem D103_5 : decode prog_1_method_30_code 5 = .ok (.aload_n 0, 1) := by decide +kernel
theorem D103_6 : decode prog_1_method_30_code 6 = .ok (.getfield 21, 3) := by decide +kernel
theorem D103_9 : decode prog_1_method_30_code 9 = .ok (.getfield 116, 3) := by decide +kernel
theorem D103_12 : decode prog_1_method_30_code 12 = .ok (.if_icmp .ge 17, 3) := by decide +kernel
theorem D103_15 : decode prog_1_method_30_code 15 = .ok (.iload_n 1, 1) := by decide +kernel
theorem D103_16 : decode prog_1_method_30_code 16 = .ok (.aload_n 0, 1) := by decide +kernel
theorem D103_17 : decode prog_1_method_30_code 17 = .ok (.iload_n 2, 1) := by decide +kernel
theorem D103_18 : decode prog_1_method_30_code 18 = .ok (.invokevirtual 281, 3) := by decide +kernel
theorem D103_21 : decode prog_1_method_30_code 21 = .ok (.iadd, 1) := by decide +kernel
theorem D103_22 : decode prog_1_method_30_code 22 = .ok (.istore_n 1, 1) := by decide +kernel
theorem D103_23 : decode prog_1_method_30_code 23 = .ok (.iinc 2 1, 3) := by decide +kernel
theorem D103_26 : decode prog_1_method_30_code 26 = .ok (.goto (-22), 3) := by decide +kernel
theorem D103_29 : decode prog_1_method_30_code 29 = .ok (.iload_n 1, 1) := by decide +kernel
theorem D103_30 : decode prog_1_method_30_code 30 = .ok (.ireturn, 1) := by decide +kernel

theorem b103_0 {d : Nat}  {ia : Nat → Nat → Int32} {la : Nat → Nat → Int64} {pl dr : Nat} {cp : Option Nat} {cw : Option Nat} {rp : Option Nat} {K : Option Value → zHP → Prop}  : zWP d 103 0 [some (.ref 0), none, none] [] (ia, la, zRA pl dr cp cw rp) K = zWP d 103 4 [some (.ref 0), some (.int (0 : Int32)), some (.int (0 : Int32))] [] (ia, la, zRA pl dr cp cw rp) K := by
  refine (Q_iconst (v := 0) zm_103 (Or.inl (by decide)) D103_0 (by decide)).trans ?_
  refine (Q_istore_n (ls' := [some (.ref 0), some (.int (0 : Int32)), none]) zm_103 (Or.inl (by decide)) D103_1 rfl (Nat.le_of_ble_eq_true rfl) rfl).trans ?_
  refine (Q_iconst (v := 0) zm_103 (Or.inl (by decide)) D103_2 (by decide)).trans ?_
  refine (Q_istore_n (ls' := [some (.ref 0), some (.int (0 : Int32)), some (.int (0 : Int32))]) zm_103 (Or.inl (by decide)) D103_3 rfl (Nat.le_of_ble_eq_true rfl) rfl).trans ?_
  rfl

theorem b103_4 {d : Nat} {i1 : Int32} {i2 : Int32} {ia : Nat → Nat → Int32} {la : Nat → Nat → Int64} {pl dr : Nat} {cp : Option Nat} {cw : Option Nat} {rp : Option Nat} {K : Option Value → zHP → Prop} (hpl : zIsP pl) : zWP (d + 1) 103 4 [some (.ref 0), some (.int i1), some (.int i2)] [] (ia, la, zRA pl dr cp cw rp) K = (if (ia pl 1) ≤ i2 then K (some (.int i1)) (ia, la, zRA pl dr cp cw rp) else zWM d 104 [.ref 0, .int i2] (ia, la, zRA pl dr cp cw rp) (zK (d + 1) 103 21 [some (.ref 0), some (.int i1), some (.int i2)] [.int i1] K)) := by
  refine (Q_iload_n zm_103 (Or.inl (by decide)) D103_4 rfl).trans ?_
  refine (Q_aload_n zm_103 (Or.inl (by decide)) D103_5 rfl).trans ?_
  refine (Q_getR (q := pl) zm_103 (Or.inl (by decide)) D103_6 zf_9_21 zs_9_1 zk_0.1 rfl).trans ?_
  refine (Q_getI zm_103 (Or.inl (by decide)) D103_9 zf_9_116 (Or.inl zs_3_1) (zkp_0 hpl).1).trans ?_
  refine (Q_ic_ge (tgt := 29) zm_103 (Or.inl (by decide)) D103_12 (by decide)).trans ?_
  refine zif_c (fun h0_ => ?_) (fun h0_ => ?_)
  · refine (Q_iload_n zm_103 (Or.inl (by decide)) D103_29 rfl).trans ?_
    exact Q_ireturn zm_103 (Or.inl (by decide)) D103_30 rfl
  · refine (Q_iload_n zm_103 (Or.inl (by decide)) D103_15 rfl).trans ?_
    refine (Q_aload_n zm_103 (Or.inl (by decide)) D103_16 rfl).trans ?_
    refine (Q_iload_n zm_103 (Or.inl (by decide)) D103_17 rfl).trans ?_
    exact Q_callv (as := [.int i2]) (b := 0) (rest := [.int i1]) zm_103 (Or.inl (by decide)) D103_18 zc_9_281 rfl zk_0.1 (by decide) (by decide +kernel) (by decide) (by simp [zcat, Value.category]) zm_104 rfl

theorem b103_21 {d : Nat} {i1 : Int32} {i2 : Int32} {s0 : Int32} {s1 : Int32} {ia : Nat → Nat → Int32} {la : Nat → Nat → Int64} {pl dr : Nat} {cp : Option Nat} {cw : Option Nat} {rp : Option Nat} {K : Option Value → zHP → Prop}  : zWP d 103 21 [some (.ref 0), some (.int i1), some (.int i2)] [.int s1, .int s0] (ia, la, zRA pl dr cp cw rp) K = zWP d 103 4 [some (.ref 0), some (.int (s0 + s1)), some (.int (i2 + (1 : Int32)))] [] (ia, la, zRA pl dr cp cw rp) K := by
  refine (Q_iadd zm_103 (Or.inl (by decide)) D103_21).trans ?_
  refine (Q_istore_n (ls' := [some (.ref 0), some (.int (s0 + s1)), some (.int i2)]) zm_103 (Or.inl (by decide)) D103_22 rfl (Nat.le_of_ble_eq_true rfl) rfl).trans ?_
  refine (Q_iinc (v := 1) (ls' := [some (.ref 0), some (.int (s0 + s1)), some (.int (i2 + (1 : Int32)))]) zm_103 (Or.inl (by decide)) D103_23 rfl rfl (by decide) rfl).trans ?_
  refine (Q_goto (tgt := 4) zm_103 (Or.inl (by decide)) D103_26 (by decide)).trans ?_
  rfl

/-! HandsLet.putOffIn(I)I -/
theorem D104_0 : decode prog_1_method_31_code 0 = .ok (.iconst 0, 1) := by decide +kernel
theorem D104_1 : decode prog_1_method_31_code 1 = .ok (.istore_n 2, 1) := by decide +kernel
theorem D104_2 : decode prog_1_method_31_code 2 = .ok (.iconst 0, 1) := by decide +kernel
theorem D104_3 : decode prog_1_method_31_code 3 = .ok (.istore_n 3, 1) := by decide +kernel
theorem D104_4 : decode prog_1_method_31_code 4 = .ok (.aload_n 0, 1) := by decide +kernel
theorem D104_5 : decode prog_1_method_31_code 5 = .ok (.getfield 31, 3) := by decide +kernel
theorem D104_8 : decode prog_1_method_31_code 8 = .ok (.getfield 224, 3) := by decide +kernel
theorem D104_11 : decode prog_1_method_31_code 11 = .ok (.istore 4, 2) := by decide +kernel
theorem D104_13 : decode prog_1_method_31_code 13 = .ok (.iload 4, 2) := by decide +kernel
theorem D104_15 : decode prog_1_method_31_code 15 = .ok (.bipush 111, 2) := by decide +kernel
theorem D104_17 : decode prog_1_method_31_code 17 = .ok (.if_icmp .gt 31, 3) := by decide +kernel
theorem D104_20 : decode prog_1_method_31_code 20 = .ok (.iload_n 3, 1) := by decide +kernel
theorem D104_21 : decode prog_1_method_31_code 21 = .ok (.aload_n 0, 1) := by decide +kernel
theorem D104_22 : decode prog_1_method_31_code 22 = .ok (.iload_n 1, 1) := by decide +kernel
theorem D104_23 : decode prog_1_method_31_code 23 = .ok (.iload 4, 2) := by decide +kernel
theorem D104_25 : decode prog_1_method_31_code 25 = .ok (.invokevirtual 284, 3) := by decide +kernel
theorem D104_28 : decode prog_1_method_31_code 28 = .ok (.iadd, 1) := by decide +kernel
theorem D104_29 : decode prog_1_method_31_code 29 = .ok (.istore_n 3, 1) := by decide +kernel
theorem D104_30 : decode prog_1_method_31_code 30 = .ok (.iconst 0, 1) := by decide +kernel
theorem D104_31 : decode prog_1_method_31_code 31 = .ok (.iload_n 3, 1) := by decide +kernel
theorem D104_32 : decode prog_1_method_31_code 32 = .ok (.iconst 1, 1) := by decide +kernel
theorem D104_33 : decode prog_1_method_31_code 33 = .ok (.isub, 1) := by decide +kernel
theorem D104_34 : decode prog_1_method_31_code 34 = .ok (.invokestatic 278, 3) := by decide +kernel
theorem D104_37 : decode prog_1_method_31_code 37 = .ok (.istore_n 3, 1) := by decide +kernel
theorem D104_38 : decode prog_1_method_31_code 38 = .ok (.iload_n 2, 1) := by decide +kernel
theorem D104_39 : decode prog_1_method_31_code 39 = .ok (.iload_n 3, 1) := by decide +kernel
theorem D104_40 : decode prog_1_method_31_code 40 = .ok (.iadd, 1) := by decide +kernel
theorem D104_41 : decode prog_1_method_31_code 41 = .ok (.istore_n 2, 1) := by decide +kernel
theorem D104_42 : decode prog_1_method_31_code 42 = .ok (.iinc 4 1, 3) := by decide +kernel
theorem D104_45 : decode prog_1_method_31_code 45 = .ok (.goto (-32), 3) := by decide +kernel
theorem D104_48 : decode prog_1_method_31_code 48 = .ok (.iload_n 2, 1) := by decide +kernel
theorem D104_49 : decode prog_1_method_31_code 49 = .ok (.ireturn, 1) := by decide +kernel

theorem b104_0 {d : Nat} {i1 : Int32} {ia : Nat → Nat → Int32} {la : Nat → Nat → Int64} {pl dr : Nat} {cp : Option Nat} {cw : Option Nat} {rp : Option Nat} {K : Option Value → zHP → Prop}  : zWP d 104 0 [some (.ref 0), some (.int i1), none, none, none] [] (ia, la, zRA pl dr cp cw rp) K = zWP d 104 13 [some (.ref 0), some (.int i1), some (.int (0 : Int32)), some (.int (0 : Int32)), some (.int (ia 72 0))] [] (ia, la, zRA pl dr cp cw rp) K := by
  refine (Q_iconst (v := 0) zm_104 (Or.inl (by decide)) D104_0 (by decide)).trans ?_
  refine (Q_istore_n (ls' := [some (.ref 0), some (.int i1), some (.int (0 : Int32)), none, none]) zm_104 (Or.inl (by decide)) D104_1 rfl (Nat.le_of_ble_eq_true rfl) rfl).trans ?_
  refine (Q_iconst (v := 0) zm_104 (Or.inl (by decide)) D104_2 (by decide)).trans ?_
  refine (Q_istore_n (ls' := [some (.ref 0), some (.int i1), some (.int (0 : Int32)), some (.int (0 : Int32)), none]) zm_104 (Or.inl (by decide)) D104_3 rfl (Nat.le_of_ble_eq_true rfl) rfl).trans ?_
  refine (Q_aload_n zm_104 (Or.inl (by decide)) D104_4 rfl).trans ?_
  refine (Q_getR (q := 72) zm_104 (Or.inl (by decide)) D104_5 zf_9_31 zs_9_3 zk_0.1 rfl).trans ?_
  refine (Q_getI zm_104 (Or.inl (by decide)) D104_8 zf_9_224 (Or.inl zs_8_0) zk_72.1).trans ?_
  refine (Q_istore (ls' := [some (.ref 0), some (.int i1), some (.int (0 : Int32)), some (.int (0 : Int32)), some (.int (ia 72 0))]) zm_104 (Or.inl (by decide)) D104_11 rfl (Nat.le_of_ble_eq_true rfl) rfl).trans ?_
  rfl

theorem b104_13 {d : Nat} {i1 : Int32} {i2 : Int32} {i3 : Int32} {i4 : Int32} {ia : Nat → Nat → Int32} {la : Nat → Nat → Int64} {pl dr : Nat} {cp : Option Nat} {cw : Option Nat} {rp : Option Nat} {K : Option Value → zHP → Prop}  : zWP (d + 1) 104 13 [some (.ref 0), some (.int i1), some (.int i2), some (.int i3), some (.int i4)] [] (ia, la, zRA pl dr cp cw rp) K = (if (111 : Int32) < i4 then K (some (.int i2)) (ia, la, zRA pl dr cp cw rp) else zWM d 105 [.ref 0, .int i1, .int i4] (ia, la, zRA pl dr cp cw rp) (zK (d + 1) 104 28 [some (.ref 0), some (.int i1), some (.int i2), some (.int i3), some (.int i4)] [.int i3] K)) := by
  refine (Q_iload zm_104 (Or.inl (by decide)) D104_13 rfl).trans ?_
  refine (Q_bipush (v := 111) zm_104 (Or.inl (by decide)) D104_15 (by decide)).trans ?_
  refine (Q_ic_gt (tgt := 48) zm_104 (Or.inl (by decide)) D104_17 (by decide)).trans ?_
  refine zif_c (fun h0_ => ?_) (fun h0_ => ?_)
  · refine (Q_iload_n zm_104 (Or.inl (by decide)) D104_48 rfl).trans ?_
    exact Q_ireturn zm_104 (Or.inl (by decide)) D104_49 rfl
  · refine (Q_iload_n zm_104 (Or.inl (by decide)) D104_20 rfl).trans ?_
    refine (Q_aload_n zm_104 (Or.inl (by decide)) D104_21 rfl).trans ?_
    refine (Q_iload_n zm_104 (Or.inl (by decide)) D104_22 rfl).trans ?_
    refine (Q_iload zm_104 (Or.inl (by decide)) D104_23 rfl).trans ?_
    exact Q_callv (as := [.int i1, .int i4]) (b := 0) (rest := [.int i3]) zm_104 (Or.inl (by decide)) D104_25 zc_9_284 rfl zk_0.1 (by decide) (by decide +kernel) (by decide) (by simp [zcat, Value.category]) zm_105 rfl

theorem b104_28 {d : Nat} {i1 : Int32} {i2 : Int32} {i3 : Int32} {i4 : Int32} {s0 : Int32} {s1 : Int32} {ia : Nat → Nat → Int32} {la : Nat → Nat → Int64} {pl dr : Nat} {cp : Option Nat} {cw : Option Nat} {rp : Option Nat} {K : Option Value → zHP → Prop}  : zWP (d + 5) 104 28 [some (.ref 0), some (.int i1), some (.int i2), some (.int i3), some (.int i4)] [.int s1, .int s0] (ia, la, zRA pl dr cp cw rp) K = zWP (d + 5) 104 13 [some (.ref 0), some (.int i1), some (.int (i2 + (if (0 : Int32) < ((s0 + s1) - (1 : Int32)) then ((s0 + s1) - (1 : Int32)) else (0 : Int32)))), some (.int (if (0 : Int32) < ((s0 + s1) - (1 : Int32)) then ((s0 + s1) - (1 : Int32)) else (0 : Int32))), some (.int (i4 + (1 : Int32)))] [] (ia, la, zRA pl dr cp cw rp) K := by
  refine (Q_iadd zm_104 (Or.inl (by decide)) D104_28).trans ?_
  refine (Q_istore_n (ls' := [some (.ref 0), some (.int i1), some (.int i2), some (.int (s0 + s1)), some (.int i4)]) zm_104 (Or.inl (by decide)) D104_29 rfl (Nat.le_of_ble_eq_true rfl) rfl).trans ?_
  refine (Q_iconst (v := 0) zm_104 (Or.inl (by decide)) D104_30 (by decide)).trans ?_
  refine (Q_iload_n zm_104 (Or.inl (by decide)) D104_31 rfl).trans ?_
  refine (Q_iconst (v := 1) zm_104 (Or.inl (by decide)) D104_32 (by decide)).trans ?_
  refine (Q_isub zm_104 (Or.inl (by decide)) D104_33).trans ?_
  refine (Q_bis (as := [.int (0 : Int32), .int ((s0 + s1) - (1 : Int32))]) (rest := []) zm_104 (Or.inl (by decide)) D104_34 zc_9_278 rfl (by decide) (by simp [zcat, Value.category]) rfl).trans ?_
  refine (Q_istore_n (ls' := [some (.ref 0), some (.int i1), some (.int i2), some (.int (if (0 : Int32) < ((s0 + s1) - (1 : Int32)) then ((s0 + s1) - (1 : Int32)) else (0 : Int32))), some (.int i4)]) zm_104 (Or.inl (by decide)) D104_37 rfl (Nat.le_of_ble_eq_true rfl) rfl).trans ?_
  refine (Q_iload_n zm_104 (Or.inl (by decide)) D104_38 rfl).trans ?_
  refine (Q_iload_n zm_104 (Or.inl (by decide)) D104_39 rfl).trans ?_
  refine (Q_iadd zm_104 (Or.inl (by decide)) D104_40).trans ?_
  refine (Q_istore_n (ls' := [some (.ref 0), some (.int i1), some (.int (i2 + (if (0 : Int32) < ((s0 + s1) - (1 : Int32)) then ((s0 + s1) - (1 : Int32)) else (0 : Int32)))), some (.int (if (0 : Int32) < ((s0 + s1) - (1 : Int32)) then ((s0 + s1) - (1 : Int32)) else (0 : Int32))), some (.int i4)]) zm_104 (Or.inl (by decide)) D104_41 rfl (Nat.le_of_ble_eq_true rfl) rfl).trans ?_
  refine (Q_iinc (v := 1) (ls' := [some (.ref 0), some (.int i1), some (.int (i2 + (if (0 : Int32) < ((s0 + s1) - (1 : Int32)) then ((s0 + s1) - (1 : Int32)) else (0 : Int32)))), some (.int (if (0 : Int32) < ((s0 + s1) - (1 : Int32)) then ((s0 + s1) - (1 : Int32)) else (0 : Int32))), some (.int (i4 + (1 : Int32)))]) zm_104 (Or.inl (by decide)) D104_42 rfl rfl (by decide) rfl).trans ?_
  refine (Q_goto (tgt := 13) zm_104 (Or.inl (by decide)) D104_45 (by decide)).trans ?_
  rfl

/-! HandsLet.lettersTold(II)I -/
theorem D105_0 : decode prog_1_method_32_code 0 = .ok (.iconst 0, 1) := by decide +kernel
theorem D105_1 : decode prog_1_method_32_code 1 = .ok (.istore_n 3, 1) := by decide +kernel
theorem D105_2 : decode prog_1_method_32_code 2 = .ok (.iconst 0, 1) := by decide +kernel
theorem D105_3 : decode prog_1_method_32_code 3 = .ok (.istore 4, 2) := by decide +kernel
theorem D105_5 : decode prog_1_method_32_code 5 = .ok (.iload 4, 2) := by decide +kernel
theorem D105_7 : decode prog_1_method_32_code 7 = .ok (.aload_n 0, 1) := by decide +kernel
theorem D105_8 : decode prog_1_method_32_code 8 = .ok (.getfield 21, 3) := by decide +kernel
theorem D105_11 : decode prog_1_method_32_code 11 = .ok (.getfield 119, 3) := by decide +kernel
theorem D105_14 : decode prog_1_method_32_code 14 = .ok (.if_icmp .ge 40, 3) := by decide +kernel
theorem D105_17 : decode prog_1_method_32_code 17 = .ok (.aload_n 0, 1) := by decide +kernel
theorem D105_18 : decode prog_1_method_32_code 18 = .ok (.getfield 21, 3) := by decide +kernel
theorem D105_21 : decode prog_1_method_32_code 21 = .ok (.getfield 157, 3) := by decide +kernel
theorem D105_24 : decode prog_1_method_32_code 24 = .ok (.iload 4, 2) := by decide +kernel
theorem D105_26 : decode prog_1_method_32_code 26 = .ok (.aaload, 1) := by decide +kernel
theorem D105_27 : decode prog_1_method_32_code 27 = .ok (.astore 5, 2) := by decide +kernel
theorem D105_29 : decode prog_1_method_32_code 29 = .ok (.aload 5, 2) := by decide +kernel
theorem D105_31 : decode prog_1_method_32_code 31 = .ok (.iconst 1, 1) := by decide +kernel
theorem D105_32 : decode prog_1_method_32_code 32 = .ok (.iaload, 1) := by decide +kernel
theorem D105_33 : decode prog_1_method_32_code 33 = .ok (.iload_n 1, 1) := by decide +kernel
theorem D105_34 : decode prog_1_method_32_code 34 = .ok (.if_icmp .ne 14, 3) := by decide +kernel
theorem D105_37 : decode prog_1_method_32_code 37 = .ok (.aload 5, 2) := by decide +kernel
theorem D105_39 : decode prog_1_method_32_code 39 = .ok (.iconst 2, 1) := by decide +kernel
theorem D105_40 : decode prog_1_method_32_code 40 = .ok (.iaload, 1) := by decide +kernel
theorem D105_41 : decode prog_1_method_32_code 41 = .ok (.iload_n 2, 1) := by decide +kernel
theorem D105_42 : decode prog_1_method_32_code 42 = .ok (.if_icmp .ne 6, 3) := by decide +kernel
theorem D105_45 : decode prog_1_method_32_code 45 = .ok (.iinc 3 1, 3) := by decide +kernel
theorem D105_48 : decode prog_1_method_32_code 48 = .ok (.iinc 4 1, 3) := by decide +kernel
theorem D105_51 : decode prog_1_method_32_code 51 = .ok (.goto (-46), 3) := by decide +kernel
theorem D105_54 : decode prog_1_method_32_code 54 = .ok (.iload_n 3, 1) := by decide +kernel
theorem D105_55 : decode prog_1_method_32_code 55 = .ok (.ireturn, 1) := by decide +kernel

theorem b105_0 {d : Nat} {i1 : Int32} {i2 : Int32} {ia : Nat → Nat → Int32} {la : Nat → Nat → Int64} {pl dr : Nat} {cp : Option Nat} {cw : Option Nat} {rp : Option Nat} {K : Option Value → zHP → Prop}  : zWP d 105 0 [some (.ref 0), some (.int i1), some (.int i2), none, none, none] [] (ia, la, zRA pl dr cp cw rp) K = zWP d 105 5 [some (.ref 0), some (.int i1), some (.int i2), some (.int (0 : Int32)), some (.int (0 : Int32)), none] [] (ia, la, zRA pl dr cp cw rp) K := by
  refine (Q_iconst (v := 0) zm_105 (Or.inl (by decide)) D105_0 (by decide)).trans ?_
  refine (Q_istore_n (ls' := [some (.ref 0), some (.int i1), some (.int i2), some (.int (0 : Int32)), none, none]) zm_105 (Or.inl (by decide)) D105_1 rfl (Nat.le_of_ble_eq_true rfl) rfl).trans ?_
  refine (Q_iconst (v := 0) zm_105 (Or.inl (by decide)) D105_2 (by decide)).trans ?_
  refine (Q_istore (ls' := [some (.ref 0), some (.int i1), some (.int i2), some (.int (0 : Int32)), some (.int (0 : Int32)), none]) zm_105 (Or.inl (by decide)) D105_3 rfl (Nat.le_of_ble_eq_true rfl) rfl).trans ?_
  rfl

theorem b105_5 {d : Nat} {i1 : Int32} {i2 : Int32} {i3 : Int32} {i4 : Int32} {a5 : Option Value} {ia : Nat → Nat → Int32} {la : Nat → Nat → Int64} {pl dr : Nat} {cp : Option Nat} {cw : Option Nat} {rp : Option Nat} {K : Option Value → zHP → Prop} (hpl : zIsP pl) : zWP d 105 5 [some (.ref 0), some (.int i1), some (.int i2), some (.int i3), some (.int i4), a5] [] (ia, la, zRA pl dr cp cw rp) K = (if (ia pl 3) ≤ i4 then K (some (.int i3)) (ia, la, zRA pl dr cp cw rp) else (vp_in i4 12 ∧ (if ¬ (ia (pl + 16 + (i4).toNatClampNeg) 1) = i1 then zWP d 105 5 [some (.ref 0), some (.int i1), some (.int i2), some (.int i3), some (.int (i4 + (1 : Int32))), some (.ref (pl + 16 + (i4).toNatClampNeg))] [] (ia, la, zRA pl dr cp cw rp) K else (if ¬ (ia (pl + 16 + (i4).toNatClampNeg) 2) = i2 then zWP d 105 5 [some (.ref 0), some (.int i1), some (.int i2), some (.int i3), some (.int (i4 + (1 : Int32))), some (.ref (pl + 16 + (i4).toNatClampNeg))] [] (ia, la, zRA pl dr cp cw rp) K else zWP d 105 5 [some (.ref 0), some (.int i1), some (.int i2), some (.int (i3 + (1 : Int32))), some (.int (i4 + (1 : Int32))), some (.ref (pl + 16 + (i4).toNatClampNeg))] [] (ia, la, zRA pl dr cp cw rp) K)))) := by
  refine (Q_iload zm_105 (Or.inl (by decide)) D105_5 rfl).trans ?_
  refine (Q_aload_n zm_105 (Or.inl (by decide)) D105_7 rfl).trans ?_
  refine (Q_getR (q := pl) zm_105 (Or.inl (by decide)) D105_8 zf_9_21 zs_9_1 zk_0.1 rfl).trans ?_
  refine (Q_getI zm_105 (Or.inl (by decide)) D105_11 zf_9_119 (Or.inl zs_3_3) (zkp_0 hpl).1).trans ?_
  refine (Q_ic_ge (tgt := 54) zm_105 (Or.inl (by decide)) D105_14 (by decide)).trans ?_
  refine zif_c (fun h0_ => ?_) (fun h0_ => ?_)
  · refine (Q_iload_n zm_105 (Or.inl (by decide)) D105_54 rfl).trans ?_
    exact Q_ireturn zm_105 (Or.inl (by decide)) D105_55 rfl
  · refine (Q_aload_n zm_105 (Or.inl (by decide)) D105_17 rfl).trans ?_
    refine (Q_getR (q := pl) zm_105 (Or.inl (by decide)) D105_18 zf_9_21 zs_9_1 zk_0.1 rfl).trans ?_
    refine (Q_getR (q := (pl + 15)) zm_105 (Or.inl (by decide)) D105_21 zf_9_157 zs_3_9 (zkp_0 hpl).1 (zrp_9 hpl)).trans ?_
    refine (Q_iload zm_105 (Or.inl (by decide)) D105_24 rfl).trans ?_
    refine (Q_aaload (f := (fun j => pl + 16 + j)) zm_105 (Or.inl (by decide)) D105_26 (zkp_15 hpl).1 (zkp_15 hpl).2 (zrow_t (pl := pl) (dr := dr) (cp := cp) (cw := cw) (rp := rp) hpl)).trans ?_
    refine zand_c (fun h1_ => ?_)
    refine (Q_astore (ls' := [some (.ref 0), some (.int i1), some (.int i2), some (.int i3), some (.int i4), some (.ref (pl + 16 + (i4).toNatClampNeg))]) zm_105 (Or.inl (by decide)) D105_27 rfl (Nat.le_of_ble_eq_true rfl) rfl).trans ?_
    refine (Q_aload zm_105 (Or.inl (by decide)) D105_29 rfl).trans ?_
    refine (Q_iconst (v := 1) zm_105 (Or.inl (by decide)) D105_31 (by decide)).trans ?_
    refine ((Q_iaload zm_105 (Or.inl (by decide)) D105_32 (zkrow_t hpl h1_).1 (zkrow_t hpl h1_).2).trans (zdrop (zin_spec (by decide)))).trans ?_
    refine (Q_iload_n zm_105 (Or.inl (by decide)) D105_33 rfl).trans ?_
    refine (Q_ic_ne (tgt := 48) zm_105 (Or.inl (by decide)) D105_34 (by decide)).trans ?_
    refine zif_c (fun h2_ => ?_) (fun h2_ => ?_)
    · refine (Q_iinc (v := 1) (ls' := [some (.ref 0), some (.int i1), some (.int i2), some (.int i3), some (.int (i4 + (1 : Int32))), some (.ref (pl + 16 + (i4).toNatClampNeg))]) zm_105 (Or.inl (by decide)) D105_48 rfl rfl (by decide) rfl).trans ?_
      refine (Q_goto (tgt := 5) zm_105 (Or.inl (by decide)) D105_51 (by decide)).trans ?_
      rfl
    · refine (Q_aload zm_105 (Or.inl (by decide)) D105_37 rfl).trans ?_
      refine (Q_iconst (v := 2) zm_105 (Or.inl (by decide)) D105_39 (by decide)).trans ?_
      refine ((Q_iaload zm_105 (Or.inl (by decide)) D105_40 (zkrow_t hpl h1_).1 (zkrow_t hpl h1_).2).trans (zdrop (zin_spec (by decide)))).trans ?_
      refine (Q_iload_n zm_105 (Or.inl (by decide)) D105_41 rfl).trans ?_
      refine (Q_ic_ne (tgt := 48) zm_105 (Or.inl (by decide)) D105_42 (by decide)).trans ?_
      refine zif_c (fun h3_ => ?_) (fun h3_ => ?_)
      · refine (Q_iinc (v := 1) (ls' := [some (.ref 0), some (.int i1), some (.int i2), some (.int i3), some (.int (i4 + (1 : Int32))), some (.ref (pl + 16 + (i4).toNatClampNeg))]) zm_105 (Or.inl (by decide)) D105_48 rfl rfl (by decide) rfl).trans ?_
        refine (Q_goto (tgt := 5) zm_105 (Or.inl (by decide)) D105_51 (by decide)).trans ?_
        rfl
      · refine (Q_iinc (v := 1) (ls' := [some (.ref 0), some (.int i1), some (.int i2), some (.int (i3 + (1 : Int32))), some (.int i4), some (.ref (pl + 16 + (i4).toNatClampNeg))]) zm_105 (Or.inl (by decide)) D105_45 rfl rfl (by decide) rfl).trans ?_
        refine (Q_iinc (v := 1) (ls' := [some (.ref 0), some (.int i1), some (.int i2), some (.int (i3 + (1 : Int32))), some (.int (i4 + (1 : Int32))), some (.ref (pl + 16 + (i4).toNatClampNeg))]) zm_105 (Or.inl (by decide)) D105_48 rfl rfl (by decide) rfl).trans ?_
        refine (Q_goto (tgt := 5) zm_105 (Or.inl (by decide)) D105_51 (by decide)).trans ?_
        rfl

/-! HandsLet.ring(II)I -/
theorem D106_0 : decode prog_1_method_33_code 0 = .ok (.aload_n 0, 1) := by decide +kernel
theorem D106_1 : decode prog_1_method_33_code 1 = .ok (.iload_n 1, 1) := by decide +kernel
theorem D106_2 : decode prog_1_method_33_code 2 = .ok (.invokevirtual 122, 3) := by decide +kernel
theorem D106_5 : decode prog_1_method_33_code 5 = .ok (.ifCond .eq 12, 3) := by decide +kernel
theorem D106_8 : decode prog_1_method_33_code 8 = .ok (.iload_n 2, 1) := by decide +kernel
theorem D106_9 : decode prog_1_method_33_code 9 = .ok (.ifCond .lt 8, 3) := by decide +kernel
theorem D106_12 : decode prog_1_method_33_code 12 = .ok (.iload_n 2, 1) := by decide +kernel
theorem D106_13 : decode prog_1_method_33_code 13 = .ok (.iconst 2, 1) := by decide +kernel
theorem D106_14 : decode prog_1_method_33_code 14 = .ok (.if_icmp .le 5, 3) := by decide +kernel
theorem D106_17 : decode prog_1_method_33_code 17 = .ok (.iconst (-1), 1) := by decide +kernel
theorem D106_18 : decode prog_1_method_33_code 18 = .ok (.ireturn, 1) := by decide +kernel
theorem D106_19 : decode prog_1_method_33_code 19 = .ok (.iload_n 1, 1) := by decide +kernel
theorem D106_20 : decode prog_1_method_33_code 20 = .ok (.istore_n 3, 1) := by decide +kernel
theorem D106_21 : decode prog_1_method_33_code 21 = .ok (.iconst 0, 1) := by decide +kernel
theorem D106_22 : decode prog_1_method_33_code 22 = .ok (.istore 4, 2) := by decide +kernel
theorem D106_24 : decode prog_1_method_33_code 24 = .ok (.iconst 1, 1) := by decide +kernel
theorem D106_25 : decode prog_1_method_33_code 25 = .ok (.iload_n 1, 1) := by decide +kernel
theorem D106_26 : decode prog_1_method_33_code 26 = .ok (.ishl, 1) := by decide +kernel
theorem D106_27 : decode prog_1_method_33_code 27 = .ok (.istore 5, 2) := by decide +kernel
theorem D106_29 : decode prog_1_method_33_code 29 = .ok (.iconst 0, 1) := by decide +kernel
theorem D106_30 : decode prog_1_method_33_code 30 = .ok (.istore 6, 2) := by decide +kernel
theorem D106_32 : decode prog_1_method_33_code 32 = .ok (.iload 4, 2) := by decide +kernel
theorem D106_34 : decode prog_1_method_33_code 34 = .ok (.bipush 6, 2) := by decide +kernel
theorem D106_36 : decode prog_1_method_33_code 36 = .ok (.if_icmp .ge 64, 3) := by decide +kernel
theorem D106_39 : decode prog_1_method_33_code 39 = .ok (.iload 6, 2) := by decide +kernel
theorem D106_41 : decode prog_1_method_33_code 41 = .ok (.ifCond .ne 59, 3) := by decide +kernel
theorem D106_44 : decode prog_1_method_33_code 44 = .ok (.aload_n 0, 1) := by decide +kernel
theorem D106_45 : decode prog_1_method_33_code 45 = .ok (.getfield 31, 3) := by decide +kernel
theorem D106_48 : decode prog_1_method_33_code 48 = .ok (.iload_n 3, 1) := by decide +kernel
theorem D106_49 : decode prog_1_method_33_code 49 = .ok (.invokevirtual 214, 3) := by decide +kernel
theorem D106_52 : decode prog_1_method_33_code 52 = .ok (.ifCond .eq 48, 3) := by decide +kernel
theorem D106_55 : decode prog_1_method_33_code 55 = .ok (.aload_n 0, 1) := by decide +kernel
theorem D106_56 : decode prog_1_method_33_code 56 = .ok (.getfield 31, 3) := by decide +kernel
theorem D106_59 : decode prog_1_method_33_code 59 = .ok (.getfield 132, 3) := by decide +kernel
theorem D106_62 : decode prog_1_method_33_code 62 = .ok (.iload_n 3, 1) := by decide +kernel
theorem D106_63 : decode prog_1_method_33_code 63 = .ok (.iaload, 1) := by decide +kernel
theorem D106_64 : decode prog_1_method_33_code 64 = .ok (.istore_n 3, 1) := by decide +kernel
theorem D106_65 : decode prog_1_method_33_code 65 = .ok (.iinc 4 1, 3) := by decide +kernel
theorem D106_68 : decode prog_1_method_33_code 68 = .ok (.iload 5, 2) := by decide +kernel
theorem D106_70 : decode prog_1_method_33_code 70 = .ok (.iload_n 3, 1) := by decide +kernel
theorem D106_71 : decode prog_1_method_33_code 71 = .ok (.ishr, 1) := by decide +kernel
theorem D106_72 : decode prog_1_method_33_code 72 = .ok (.iconst 1, 1) := by decide +kernel
theorem D106_73 : decode prog_1_method_33_code 73 = .ok (.iand, 1) := by decide +kernel
theorem D106_74 : decode prog_1_method_33_code 74 = .ok (.ifCond .eq 15, 3) := by decide +kernel
theorem D106_77 : decode prog_1_method_33_code 77 = .ok (.iload_n 3, 1) := by decide +kernel
theorem D106_78 : decode prog_1_method_33_code 78 = .ok (.iload_n 1, 1) := by decide +kernel
theorem D106_79 : decode prog_1_method_33_code 79 = .ok (.if_icmp .ne 7, 3) := by decide +kernel
theorem D106_82 : decode prog_1_method_33_code 82 = .ok (.iconst 1, 1) := by decide +kernel
theorem D106_83 : decode prog_1_method_33_code 83 = .ok (.goto 4, 3) := by decide +kernel
theorem D106_86 : decode prog_1_method_33_code 86 = .ok (.iconst 2, 1) := by decide +kernel
theorem D106_87 : decode prog_1_method_33_code 87 = .ok (.istore 6, 2) := by decide +kernel
theorem D106_89 : decode prog_1_method_33_code 89 = .ok (.iload 5, 2) := by decide +kernel
theorem D106_91 : decode prog_1_method_33_code 91 = .ok (.iconst 1, 1) := by decide +kernel
theorem D106_92 : decode prog_1_method_33_code 92 = .ok (.iload_n 3, 1) := by decide +kernel
theorem D106_93 : decode prog_1_method_33_code 93 = .ok (.ishl, 1) := by decide +kernel
theorem D106_94 : decode prog_1_method_33_code 94 = .ok (.ior, 1) := by decide +kernel
theorem D106_95 : decode prog_1_method_33_code 95 = .ok (.istore 5, 2) := by decide +kernel
theorem D106_97 : decode prog_1_method_33_code 97 = .ok (.goto (-65), 3) := by decide +kernel
theorem D106_100 : decode prog_1_method_33_code 100 = .ok (.iload_n 2, 1) := by decide +kernel
theorem D106_101 : decode prog_1_method_33_code 101 = .ok (.ifCond .ne 6, 3) := by decide +kernel
theorem D106_104 : decode prog_1_method_33_code 104 = .ok (.iload 6, 2) := by decide +kernel
theorem D106_106 : decode prog_1_method_33_code 106 = .ok (.ireturn, 1) := by decide +kernel
theorem D106_107 : decode prog_1_method_33_code 107 = .ok (.iload_n 2, 1) := by decide +kernel
theorem D106_108 : decode prog_1_method_33_code 108 = .ok (.iconst 1, 1) := by decide +kernel
theorem D106_109 : decode prog_1_method_33_code 109 = .ok (.if_icmp .ne 8, 3) := by decide +kernel
theorem D106_112 : decode prog_1_method_33_code 112 = .ok (.iload 4, 2) := by decide +kernel
theorem D106_114 : decode prog_1_method_33_code 114 = .ok (.goto 5, 3) := by decide +kernel
theorem D106_117 : decode prog_1_method_33_code 117 = .ok (.iload 5, 2) := by decide +kernel
theorem D106_119 : decode prog_1_method_33_code 119 = .ok (.ireturn, 1) := by decide +kernel

theorem b106_0 {d : Nat} {i1 : Int32} {i2 : Int32} {ia : Nat → Nat → Int32} {la : Nat → Nat → Int64} {pl dr : Nat} {cp : Option Nat} {cw : Option Nat} {rp : Option Nat} {K : Option Value → zHP → Prop}  : zWP (d + 1) 106 0 [some (.ref 0), some (.int i1), some (.int i2), none, none, none, none] [] (ia, la, zRA pl dr cp cw rp) K = zWM d 80 [.ref 0, .int i1] (ia, la, zRA pl dr cp cw rp) (zK (d + 1) 106 5 [some (.ref 0), some (.int i1), some (.int i2), none, none, none, none] [] K) := by
  refine (Q_aload_n zm_106 (Or.inl (by decide)) D106_0 rfl).trans ?_
  refine (Q_iload_n zm_106 (Or.inl (by decide)) D106_1 rfl).trans ?_
  exact Q_callv (as := [.int i1]) (b := 0) (rest := []) zm_106 (Or.inl (by decide)) D106_2 zc_9_122 rfl zk_0.1 (by decide) (by decide +kernel) (by decide) (by simp [zcat, Value.category]) zm_80 rfl

theorem b106_5 {d : Nat} {i1 : Int32} {i2 : Int32} {s0 : Int32} {ia : Nat → Nat → Int32} {la : Nat → Nat → Int64} {pl dr : Nat} {cp : Option Nat} {cw : Option Nat} {rp : Option Nat} {K : Option Value → zHP → Prop}  : zWP d 106 5 [some (.ref 0), some (.int i1), some (.int i2), none, none, none, none] [.int s0] (ia, la, zRA pl dr cp cw rp) K = (if s0 = 0 then K (some (.int (-1 : Int32))) (ia, la, zRA pl dr cp cw rp) else (if i2 < 0 then K (some (.int (-1 : Int32))) (ia, la, zRA pl dr cp cw rp) else (if i2 ≤ (2 : Int32) then zWP d 106 32 [some (.ref 0), some (.int i1), some (.int i2), some (.int i1), some (.int (0 : Int32)), some (.int ((1 : Int32) <<< (i1 &&& 31))), some (.int (0 : Int32))] [] (ia, la, zRA pl dr cp cw rp) K else K (some (.int (-1 : Int32))) (ia, la, zRA pl dr cp cw rp)))) := by
  refine (Q_if_eq (tgt := 17) zm_106 (Or.inl (by decide)) D106_5 (by decide)).trans ?_
  refine zif_c (fun h0_ => ?_) (fun h0_ => ?_)
  · refine (Q_iconst (v := -1) zm_106 (Or.inl (by decide)) D106_17 (by decide)).trans ?_
    exact Q_ireturn zm_106 (Or.inl (by decide)) D106_18 rfl
  · refine (Q_iload_n zm_106 (Or.inl (by decide)) D106_8 rfl).trans ?_
    refine (Q_if_lt (tgt := 17) zm_106 (Or.inl (by decide)) D106_9 (by decide)).trans ?_
    refine zif_c (fun h1_ => ?_) (fun h1_ => ?_)
    · refine (Q_iconst (v := -1) zm_106 (Or.inl (by decide)) D106_17 (by decide)).trans ?_
      exact Q_ireturn zm_106 (Or.inl (by decide)) D106_18 rfl
    · refine (Q_iload_n zm_106 (Or.inl (by decide)) D106_12 rfl).trans ?_
      refine (Q_iconst (v := 2) zm_106 (Or.inl (by decide)) D106_13 (by decide)).trans ?_
      refine (Q_ic_le (tgt := 19) zm_106 (Or.inl (by decide)) D106_14 (by decide)).trans ?_
      refine zif_c (fun h2_ => ?_) (fun h2_ => ?_)
      · refine (Q_iload_n zm_106 (Or.inl (by decide)) D106_19 rfl).trans ?_
        refine (Q_istore_n (ls' := [some (.ref 0), some (.int i1), some (.int i2), some (.int i1), none, none, none]) zm_106 (Or.inl (by decide)) D106_20 rfl (Nat.le_of_ble_eq_true rfl) rfl).trans ?_
        refine (Q_iconst (v := 0) zm_106 (Or.inl (by decide)) D106_21 (by decide)).trans ?_
        refine (Q_istore (ls' := [some (.ref 0), some (.int i1), some (.int i2), some (.int i1), some (.int (0 : Int32)), none, none]) zm_106 (Or.inl (by decide)) D106_22 rfl (Nat.le_of_ble_eq_true rfl) rfl).trans ?_
        refine (Q_iconst (v := 1) zm_106 (Or.inl (by decide)) D106_24 (by decide)).trans ?_
        refine (Q_iload_n zm_106 (Or.inl (by decide)) D106_25 rfl).trans ?_
        refine (Q_ishl zm_106 (Or.inl (by decide)) D106_26).trans ?_
        refine (Q_istore (ls' := [some (.ref 0), some (.int i1), some (.int i2), some (.int i1), some (.int (0 : Int32)), some (.int ((1 : Int32) <<< (i1 &&& 31))), none]) zm_106 (Or.inl (by decide)) D106_27 rfl (Nat.le_of_ble_eq_true rfl) rfl).trans ?_
        refine (Q_iconst (v := 0) zm_106 (Or.inl (by decide)) D106_29 (by decide)).trans ?_
        refine (Q_istore (ls' := [some (.ref 0), some (.int i1), some (.int i2), some (.int i1), some (.int (0 : Int32)), some (.int ((1 : Int32) <<< (i1 &&& 31))), some (.int (0 : Int32))]) zm_106 (Or.inl (by decide)) D106_30 rfl (Nat.le_of_ble_eq_true rfl) rfl).trans ?_
        rfl
      · refine (Q_iconst (v := -1) zm_106 (Or.inl (by decide)) D106_17 (by decide)).trans ?_
        exact Q_ireturn zm_106 (Or.inl (by decide)) D106_18 rfl

theorem b106_32 {d : Nat} {i1 : Int32} {i2 : Int32} {i3 : Int32} {i4 : Int32} {i5 : Int32} {i6 : Int32} {ia : Nat → Nat → Int32} {la : Nat → Nat → Int64} {pl dr : Nat} {cp : Option Nat} {cw : Option Nat} {rp : Option Nat} {K : Option Value → zHP → Prop}  : zWP (d + 1) 106 32 [some (.ref 0), some (.int i1), some (.int i2), some (.int i3), some (.int i4), some (.int i5), some (.int i6)] [] (ia, la, zRA pl dr cp cw rp) K = (if (6 : Int32) ≤ i4 then zWP (d + 1) 106 100 [some (.ref 0), some (.int i1), some (.int i2), some (.int i3), some (.int i4), some (.int i5), some (.int i6)] [] (ia, la, zRA pl dr cp cw rp) K else (if ¬ i6 = 0 then zWP (d + 1) 106 100 [some (.ref 0), some (.int i1), some (.int i2), some (.int i3), some (.int i4), some (.int i5), some (.int i6)] [] (ia, la, zRA pl dr cp cw rp) K else zWM d 69 [.ref 72, .int i3] (ia, la, zRA pl dr cp cw rp) (zK (d + 1) 106 52 [some (.ref 0), some (.int i1), some (.int i2), some (.int i3), some (.int i4), some (.int i5), some (.int i6)] [] K))) := by
  refine (Q_iload zm_106 (Or.inl (by decide)) D106_32 rfl).trans ?_
  refine (Q_bipush (v := 6) zm_106 (Or.inl (by decide)) D106_34 (by decide)).trans ?_
  refine (Q_ic_ge (tgt := 100) zm_106 (Or.inl (by decide)) D106_36 (by decide)).trans ?_
  refine zif_c (fun h0_ => ?_) (fun h0_ => ?_)
  · rfl
  · refine (Q_iload zm_106 (Or.inl (by decide)) D106_39 rfl).trans ?_
    refine (Q_if_ne (tgt := 100) zm_106 (Or.inl (by decide)) D106_41 (by decide)).trans ?_
    refine zif_c (fun h1_ => ?_) (fun h1_ => ?_)
    · rfl
    · refine (Q_aload_n zm_106 (Or.inl (by decide)) D106_44 rfl).trans ?_
      refine (Q_getR (q := 72) zm_106 (Or.inl (by decide)) D106_45 zf_9_31 zs_9_3 zk_0.1 rfl).trans ?_
      refine (Q_iload_n zm_106 (Or.inl (by decide)) D106_48 rfl).trans ?_
      exact Q_callv (as := [.int i3]) (b := 72) (rest := []) zm_106 (Or.inl (by decide)) D106_49 zc_9_214 rfl zk_72.1 (by decide) (by decide +kernel) (by decide) (by simp [zcat, Value.category]) zm_69 rfl

theorem b106_100 {d : Nat} {i1 : Int32} {i2 : Int32} {i3 : Int32} {i4 : Int32} {i5 : Int32} {i6 : Int32} {ia : Nat → Nat → Int32} {la : Nat → Nat → Int64} {pl dr : Nat} {cp : Option Nat} {cw : Option Nat} {rp : Option Nat} {K : Option Value → zHP → Prop}  : zWP d 106 100 [some (.ref 0), some (.int i1), some (.int i2), some (.int i3), some (.int i4), some (.int i5), some (.int i6)] [] (ia, la, zRA pl dr cp cw rp) K = (if ¬ i2 = 0 then (if ¬ i2 = (1 : Int32) then K (some (.int i5)) (ia, la, zRA pl dr cp cw rp) else K (some (.int i4)) (ia, la, zRA pl dr cp cw rp)) else K (some (.int i6)) (ia, la, zRA pl dr cp cw rp)) := by
  refine (Q_iload_n zm_106 (Or.inl (by decide)) D106_100 rfl).trans ?_
  refine (Q_if_ne (tgt := 107) zm_106 (Or.inl (by decide)) D106_101 (by decide)).trans ?_
  refine zif_c (fun h0_ => ?_) (fun h0_ => ?_)
  · refine (Q_iload_n zm_106 (Or.inl (by decide)) D106_107 rfl).trans ?_
    refine (Q_iconst (v := 1) zm_106 (Or.inl (by decide)) D106_108 (by decide)).trans ?_
    refine (Q_ic_ne (tgt := 117) zm_106 (Or.inl (by decide)) D106_109 (by decide)).trans ?_
    refine zif_c (fun h1_ => ?_) (fun h1_ => ?_)
    · refine (Q_iload zm_106 (Or.inl (by decide)) D106_117 rfl).trans ?_
      exact Q_ireturn zm_106 (Or.inl (by decide)) D106_119 rfl
    · refine (Q_iload zm_106 (Or.inl (by decide)) D106_112 rfl).trans ?_
      refine (Q_goto (tgt := 119) zm_106 (Or.inl (by decide)) D106_114 (by decide)).trans ?_
      exact Q_ireturn zm_106 (Or.inl (by decide)) D106_119 rfl
  · refine (Q_iload zm_106 (Or.inl (by decide)) D106_104 rfl).trans ?_
    exact Q_ireturn zm_106 (Or.inl (by decide)) D106_106 rfl

theorem b106_52 {d : Nat} {i1 : Int32} {i2 : Int32} {i3 : Int32} {i4 : Int32} {i5 : Int32} {i6 : Int32} {s0 : Int32} {ia : Nat → Nat → Int32} {la : Nat → Nat → Int64} {pl dr : Nat} {cp : Option Nat} {cw : Option Nat} {rp : Option Nat} {K : Option Value → zHP → Prop}  : zWP d 106 52 [some (.ref 0), some (.int i1), some (.int i2), some (.int i3), some (.int i4), some (.int i5), some (.int i6)] [.int s0] (ia, la, zRA pl dr cp cw rp) K = (if s0 = 0 then zWP d 106 100 [some (.ref 0), some (.int i1), some (.int i2), some (.int i3), some (.int i4), some (.int i5), some (.int i6)] [] (ia, la, zRA pl dr cp cw rp) K else (vp_in i3 6 ∧ (if ((i5 >>> ((ia 75 (i3).toNatClampNeg) &&& 31)) &&& (1 : Int32)) = 0 then zWP d 106 32 [some (.ref 0), some (.int i1), some (.int i2), some (.int (ia 75 (i3).toNatClampNeg)), some (.int (i4 + (1 : Int32))), some (.int (i5 ||| ((1 : Int32) <<< ((ia 75 (i3).toNatClampNeg) &&& 31)))), some (.int i6)] [] (ia, la, zRA pl dr cp cw rp) K else (if ¬ (ia 75 (i3).toNatClampNeg) = i1 then zWP d 106 32 [some (.ref 0), some (.int i1), some (.int i2), some (.int (ia 75 (i3).toNatClampNeg)), some (.int (i4 + (1 : Int32))), some (.int (i5 ||| ((1 : Int32) <<< ((ia 75 (i3).toNatClampNeg) &&& 31)))), some (.int (2 : Int32))] [] (ia, la, zRA pl dr cp cw rp) K else zWP d 106 32 [some (.ref 0), some (.int i1), some (.int i2), some (.int (ia 75 (i3).toNatClampNeg)), some (.int (i4 + (1 : Int32))), some (.int (i5 ||| ((1 : Int32) <<< ((ia 75 (i3).toNatClampNeg) &&& 31)))), some (.int (1 : Int32))] [] (ia, la, zRA pl dr cp cw rp) K)))) := by
  refine (Q_if_eq (tgt := 100) zm_106 (Or.inl (by decide)) D106_52 (by decide)).trans ?_
  refine zif_c (fun h0_ => ?_) (fun h0_ => ?_)
  · rfl
  · refine (Q_aload_n zm_106 (Or.inl (by decide)) D106_55 rfl).trans ?_
    refine (Q_getR (q := 72) zm_106 (Or.inl (by decide)) D106_56 zf_9_31 zs_9_3 zk_0.1 rfl).trans ?_
    refine (Q_getR (q := 75) zm_106 (Or.inl (by decide)) D106_59 zf_9_132 zs_8_4 zk_72.1 rfl).trans ?_
    refine (Q_iload_n zm_106 (Or.inl (by decide)) D106_62 rfl).trans ?_
    refine (Q_iaload zm_106 (Or.inl (by decide)) D106_63 zk_75.1 zk_75.2).trans ?_
    refine zand_c (fun h1_ => ?_)
    refine (Q_istore_n (ls' := [some (.ref 0), some (.int i1), some (.int i2), some (.int (ia 75 (i3).toNatClampNeg)), some (.int i4), some (.int i5), some (.int i6)]) zm_106 (Or.inl (by decide)) D106_64 rfl (Nat.le_of_ble_eq_true rfl) rfl).trans ?_
    refine (Q_iinc (v := 1) (ls' := [some (.ref 0), some (.int i1), some (.int i2), some (.int (ia 75 (i3).toNatClampNeg)), some (.int (i4 + (1 : Int32))), some (.int i5), some (.int i6)]) zm_106 (Or.inl (by decide)) D106_65 rfl rfl (by decide) rfl).trans ?_
    refine (Q_iload zm_106 (Or.inl (by decide)) D106_68 rfl).trans ?_
    refine (Q_iload_n zm_106 (Or.inl (by decide)) D106_70 rfl).trans ?_
    refine (Q_ishr zm_106 (Or.inl (by decide)) D106_71).trans ?_
    refine (Q_iconst (v := 1) zm_106 (Or.inl (by decide)) D106_72 (by decide)).trans ?_
    refine (Q_iand zm_106 (Or.inl (by decide)) D106_73).trans ?_
    refine (Q_if_eq (tgt := 89) zm_106 (Or.inl (by decide)) D106_74 (by decide)).trans ?_
    refine zif_c (fun h2_ => ?_) (fun h2_ => ?_)
    · refine (Q_iload zm_106 (Or.inl (by decide)) D106_89 rfl).trans ?_
      refine (Q_iconst (v := 1) zm_106 (Or.inl (by decide)) D106_91 (by decide)).trans ?_
      refine (Q_iload_n zm_106 (Or.inl (by decide)) D106_92 rfl).trans ?_
      refine (Q_ishl zm_106 (Or.inl (by decide)) D106_93).trans ?_
      refine (Q_ior zm_106 (Or.inl (by decide)) D106_94).trans ?_
      refine (Q_istore (ls' := [some (.ref 0), some (.int i1), some (.int i2), some (.int (ia 75 (i3).toNatClampNeg)), some (.int (i4 + (1 : Int32))), some (.int (i5 ||| ((1 : Int32) <<< ((ia 75 (i3).toNatClampNeg) &&& 31)))), some (.int i6)]) zm_106 (Or.inl (by decide)) D106_95 rfl (Nat.le_of_ble_eq_true rfl) rfl).trans ?_
      refine (Q_goto (tgt := 32) zm_106 (Or.inl (by decide)) D106_97 (by decide)).trans ?_
      rfl
    · refine (Q_iload_n zm_106 (Or.inl (by decide)) D106_77 rfl).trans ?_
      refine (Q_iload_n zm_106 (Or.inl (by decide)) D106_78 rfl).trans ?_
      refine (Q_ic_ne (tgt := 86) zm_106 (Or.inl (by decide)) D106_79 (by decide)).trans ?_
      refine zif_c (fun h3_ => ?_) (fun h3_ => ?_)
      · refine (Q_iconst (v := 2) zm_106 (Or.inl (by decide)) D106_86 (by decide)).trans ?_
        refine (Q_istore (ls' := [some (.ref 0), some (.int i1), some (.int i2), some (.int (ia 75 (i3).toNatClampNeg)), some (.int (i4 + (1 : Int32))), some (.int i5), some (.int (2 : Int32))]) zm_106 (Or.inl (by decide)) D106_87 rfl (Nat.le_of_ble_eq_true rfl) rfl).trans ?_
        refine (Q_iload zm_106 (Or.inl (by decide)) D106_89 rfl).trans ?_
        refine (Q_iconst (v := 1) zm_106 (Or.inl (by decide)) D106_91 (by decide)).trans ?_
        refine (Q_iload_n zm_106 (Or.inl (by decide)) D106_92 rfl).trans ?_
        refine (Q_ishl zm_106 (Or.inl (by decide)) D106_93).trans ?_
        refine (Q_ior zm_106 (Or.inl (by decide)) D106_94).trans ?_
        refine (Q_istore (ls' := [some (.ref 0), some (.int i1), some (.int i2), some (.int (ia 75 (i3).toNatClampNeg)), some (.int (i4 + (1 : Int32))), some (.int (i5 ||| ((1 : Int32) <<< ((ia 75 (i3).toNatClampNeg) &&& 31)))), some (.int (2 : Int32))]) zm_106 (Or.inl (by decide)) D106_95 rfl (Nat.le_of_ble_eq_true rfl) rfl).trans ?_
        refine (Q_goto (tgt := 32) zm_106 (Or.inl (by decide)) D106_97 (by decide)).trans ?_
        rfl
      · refine (Q_iconst (v := 1) zm_106 (Or.inl (by decide)) D106_82 (by decide)).trans ?_
        refine (Q_goto (tgt := 87) zm_106 (Or.inl (by decide)) D106_83 (by decide)).trans ?_
        refine (Q_istore (ls' := [some (.ref 0), some (.int i1), some (.int i2), some (.int (ia 75 (i3).toNatClampNeg)), some (.int (i4 + (1 : Int32))), some (.int i5), some (.int (1 : Int32))]) zm_106 (Or.inl (by decide)) D106_87 rfl (Nat.le_of_ble_eq_true rfl) rfl).trans ?_
        refine (Q_iload zm_106 (Or.inl (by decide)) D106_89 rfl).trans ?_
        refine (Q_iconst (v := 1) zm_106 (Or.inl (by decide)) D106_91 (by decide)).trans ?_
        refine (Q_iload_n zm_106 (Or.inl (by decide)) D106_92 rfl).trans ?_
        refine (Q_ishl zm_106 (Or.inl (by decide)) D106_93).trans ?_
        refine (Q_ior zm_106 (Or.inl (by decide)) D106_94).trans ?_
        refine (Q_istore (ls' := [some (.ref 0), some (.int i1), some (.int i2), some (.int (ia 75 (i3).toNatClampNeg)), some (.int (i4 + (1 : Int32))), some (.int (i5 ||| ((1 : Int32) <<< ((ia 75 (i3).toNatClampNeg) &&& 31)))), some (.int (1 : Int32))]) zm_106 (Or.inl (by decide)) D106_95 rfl (Nat.le_of_ble_eq_true rfl) rfl).trans ?_
        refine (Q_goto (tgt := 32) zm_106 (Or.inl (by decide)) D106_97 (by decide)).trans ?_
        rfl

/-! HandsLet.lessons(I)I -/
theorem D107_0 : decode prog_1_method_34_code 0 = .ok (.aload_n 0, 1) := by decide +kernel
theorem D107_1 : decode prog_1_method_34_code 1 = .ok (.iload_n 1, 1) := by decide +kernel
theorem D107_2 : decode prog_1_method_34_code 2 = .ok (.invokevirtual 122, 3) := by decide +kernel
theorem D107_5 : decode prog_1_method_34_code 5 = .ok (.ifCond .ne 5, 3) := by decide +kernel
theorem D107_8 : decode prog_1_method_34_code 8 = .ok (.iconst (-1), 1) := by decide +kernel
theorem D107_9 : decode prog_1_method_34_code 9 = .ok (.ireturn, 1) := by decide +kernel
theorem D107_10 : decode prog_1_method_34_code 10 = .ok (.iconst 0, 1) := by decide +kernel
theorem D107_11 : decode prog_1_method_34_code 11 = .ok (.istore_n 2, 1) := by decide +kernel
theorem D107_12 : decode prog_1_method_34_code 12 = .ok (.iload_n 1, 1) := by decide +kernel
theorem D107_13 : decode prog_1_method_34_code 13 = .ok (.iconst 3, 1) := by decide +kernel
theorem D107_14 : decode prog_1_method_34_code 14 = .ok (.imul, 1) := by decide +kernel
theorem D107_15 : decode prog_1_method_34_code 15 = .ok (.istore_n 3, 1) := by decide +kernel
theorem D107_16 : decode prog_1_method_34_code 16 = .ok (.iload_n 3, 1) := by decide +kernel
theorem D107_17 : decode prog_1_method_34_code 17 = .ok (.iload_n 1, 1) := by decide +kernel
theorem D107_18 : decode prog_1_method_34_code 18 = .ok (.iconst 3, 1) := by decide +kernel
theorem D107_19 : decode prog_1_method_34_code 19 = .ok (.imul, 1) := by decide +kernel
theorem D107_20 : decode prog_1_method_34_code 20 = .ok (.iconst 3, 1) := by decide +kernel
theorem D107_21 : decode prog_1_method_34_code 21 = .ok (.iadd, 1) := by decide +kernel
theorem D107_22 : decode prog_1_method_34_code 22 = .ok (.if_icmp .ge 77, 3) := by decide +kernel
theorem D107_25 : decode prog_1_method_34_code 25 = .ok (.sipush 1000, 3) := by decide +kernel
theorem D107_28 : decode prog_1_method_34_code 28 = .ok (.aload_n 0, 1) := by decide +kernel
theorem D107_29 : decode prog_1_method_34_code 29 = .ok (.getfield 21, 3) := by decide +kernel
theorem D107_32 : decode prog_1_method_34_code 32 = .ok (.getfield 147, 3) := by decide +kernel
theorem D107_35 : decode prog_1_method_34_code 35 = .ok (.iload_n 3, 1) := by decide +kernel
theorem D107_36 : decode prog_1_method_34_code 36 = .ok (.iaload, 1) := by decide +kernel
theorem D107_37 : decode prog_1_method_34_code 37 = .ok (.imul, 1) := by decide +kernel
theorem D107_38 : decode prog_1_method_34_code 38 = .ok (.aload_n 0, 1) := by decide +kernel
theorem D107_39 : decode prog_1_method_34_code 39 = .ok (.getfield 31, 3) := by decide +kernel
theorem D107_42 : decode prog_1_method_34_code 42 = .ok (.getfield 129, 3) := by decide +kernel
theorem D107_45 : decode prog_1_method_34_code 45 = .ok (.iload_n 3, 1) := by decide +kernel
theorem D107_46 : decode prog_1_method_34_code 46 = .ok (.iaload, 1) := by decide +kernel
theorem D107_47 : decode prog_1_method_34_code 47 = .ok (.isub, 1) := by decide +kernel
theorem D107_48 : decode prog_1_method_34_code 48 = .ok (.invokestatic 246, 3) := by decide +kernel
theorem D107_51 : decode prog_1_method_34_code 51 = .ok (.istore 4, 2) := by decide +kernel
theorem D107_53 : decode prog_1_method_34_code 53 = .ok (.iconst 0, 1) := by decide +kernel
theorem D107_54 : decode prog_1_method_34_code 54 = .ok (.istore 5, 2) := by decide +kernel
theorem D107_56 : decode prog_1_method_34_code 56 = .ok (.iload 5, 2) := by decide +kernel
theorem D107_58 : decode prog_1_method_34_code 58 = .ok (.bipush 100, 2) := by decide +kernel
theorem D107_60 : decode prog_1_method_34_code 60 = .ok (.if_icmp .ge 26, 3) := by decide +kernel
theorem D107_63 : decode prog_1_method_34_code 63 = .ok (.iload 4, 2) := by decide +kernel
theorem D107_65 : decode prog_1_method_34_code 65 = .ok (.sipush 1000, 3) := by decide +kernel
theorem D107_68 : decode prog_1_method_34_code 68 = .ok (.if_icmp .lt 18, 3) := by decide +kernel
theorem D107_71 : decode prog_1_method_34_code 71 = .ok (.iload 4, 2) := by decide +kernel
theorem D107_73 : decode prog_1_method_34_code 73 = .ok (.iload 4, 2) := by decide +kernel
theorem D107_75 : decode prog_1_method_34_code 75 = .ok (.iconst 2, 1) := by decide +kernel
theorem D107_76 : decode prog_1_method_34_code 76 = .ok (.idiv, 1) := by decide +kernel
theorem D107_77 : decode prog_1_method_34_code 77 = .ok (.isub, 1) := by decide +kernel
theorem D107_78 : decode prog_1_method_34_code 78 = .ok (.istore 4, 2) := by decide +kernel
theorem D107_80 : decode prog_1_method_34_code 80 = .ok (.iinc 5 1, 3) := by decide +kernel
theorem D107_83 : decode prog_1_method_34_code 83 = .ok (.goto (-27), 3) := by decide +kernel
theorem D107_86 : decode prog_1_method_34_code 86 = .ok (.iload_n 2, 1) := by decide +kernel
theorem D107_87 : decode prog_1_method_34_code 87 = .ok (.iload 5, 2) := by decide +kernel
theorem D107_89 : decode prog_1_method_34_code 89 = .ok (.invokestatic 278, 3) := by decide +kernel
theorem D107_92 : decode prog_1_method_34_code 92 = .ok (.istore_n 2, 1) := by decide +kernel
theorem D107_93 : decode prog_1_method_34_code 93 = .ok (.iinc 3 1, 3) := by decide +kernel
theorem D107_96 : decode prog_1_method_34_code 96 = .ok (.goto (-80), 3) := by decide +kernel
theorem D107_99 : decode prog_1_method_34_code 99 = .ok (.iload_n 2, 1) := by decide +kernel
theorem D107_100 : decode prog_1_method_34_code 100 = .ok (.ireturn, 1) := by decide +kernel

theorem b107_0 {d : Nat} {i1 : Int32} {ia : Nat → Nat → Int32} {la : Nat → Nat → Int64} {pl dr : Nat} {cp : Option Nat} {cw : Option Nat} {rp : Option Nat} {K : Option Value → zHP → Prop}  : zWP (d + 1) 107 0 [some (.ref 0), some (.int i1), none, none, none, none] [] (ia, la, zRA pl dr cp cw rp) K = zWM d 80 [.ref 0, .int i1] (ia, la, zRA pl dr cp cw rp) (zK (d + 1) 107 5 [some (.ref 0), some (.int i1), none, none, none, none] [] K) := by
  refine (Q_aload_n zm_107 (Or.inl (by decide)) D107_0 rfl).trans ?_
  refine (Q_iload_n zm_107 (Or.inl (by decide)) D107_1 rfl).trans ?_
  exact Q_callv (as := [.int i1]) (b := 0) (rest := []) zm_107 (Or.inl (by decide)) D107_2 zc_9_122 rfl zk_0.1 (by decide) (by decide +kernel) (by decide) (by simp [zcat, Value.category]) zm_80 rfl

theorem b107_5 {d : Nat} {i1 : Int32} {s0 : Int32} {ia : Nat → Nat → Int32} {la : Nat → Nat → Int64} {pl dr : Nat} {cp : Option Nat} {cw : Option Nat} {rp : Option Nat} {K : Option Value → zHP → Prop}  : zWP d 107 5 [some (.ref 0), some (.int i1), none, none, none, none] [.int s0] (ia, la, zRA pl dr cp cw rp) K = (if ¬ s0 = 0 then zWP d 107 16 [some (.ref 0), some (.int i1), some (.int (0 : Int32)), some (.int (i1 * (3 : Int32))), none, none] [] (ia, la, zRA pl dr cp cw rp) K else K (some (.int (-1 : Int32))) (ia, la, zRA pl dr cp cw rp)) := by
  refine (Q_if_ne (tgt := 10) zm_107 (Or.inl (by decide)) D107_5 (by decide)).trans ?_
  refine zif_c (fun h0_ => ?_) (fun h0_ => ?_)
  · refine (Q_iconst (v := 0) zm_107 (Or.inl (by decide)) D107_10 (by decide)).trans ?_
    refine (Q_istore_n (ls' := [some (.ref 0), some (.int i1), some (.int (0 : Int32)), none, none, none]) zm_107 (Or.inl (by decide)) D107_11 rfl (Nat.le_of_ble_eq_true rfl) rfl).trans ?_
    refine (Q_iload_n zm_107 (Or.inl (by decide)) D107_12 rfl).trans ?_
    refine (Q_iconst (v := 3) zm_107 (Or.inl (by decide)) D107_13 (by decide)).trans ?_
    refine (Q_imul zm_107 (Or.inl (by decide)) D107_14).trans ?_
    refine (Q_istore_n (ls' := [some (.ref 0), some (.int i1), some (.int (0 : Int32)), some (.int (i1 * (3 : Int32))), none, none]) zm_107 (Or.inl (by decide)) D107_15 rfl (Nat.le_of_ble_eq_true rfl) rfl).trans ?_
    rfl
  · refine (Q_iconst (v := -1) zm_107 (Or.inl (by decide)) D107_8 (by decide)).trans ?_
    exact Q_ireturn zm_107 (Or.inl (by decide)) D107_9 rfl

theorem b107_16 {d : Nat} {i1 : Int32} {i2 : Int32} {i3 : Int32} {a4 : Option Value} {a5 : Option Value} {ia : Nat → Nat → Int32} {la : Nat → Nat → Int64} {pl dr : Nat} {cp : Option Nat} {cw : Option Nat} {rp : Option Nat} {K : Option Value → zHP → Prop} (hpl : zIsP pl) : zWP (d + 5) 107 16 [some (.ref 0), some (.int i1), some (.int i2), some (.int i3), a4, a5] [] (ia, la, zRA pl dr cp cw rp) K = (if ((i1 * (3 : Int32)) + (3 : Int32)) ≤ i3 then K (some (.int i2)) (ia, la, zRA pl dr cp cw rp) else (vp_in i3 18 ∧ zWP (d + 5) 107 56 [some (.ref 0), some (.int i1), some (.int i2), some (.int i3), some (.int (if 0 ≤ (((1000 : Int32) * (ia (pl + 2) (i3).toNatClampNeg)) - (ia 74 (i3).toNatClampNeg)) then (((1000 : Int32) * (ia (pl + 2) (i3).toNatClampNeg)) - (ia 74 (i3).toNatClampNeg)) else 0 - (((1000 : Int32) * (ia (pl + 2) (i3).toNatClampNeg)) - (ia 74 (i3).toNatClampNeg)))), some (.int (0 : Int32))] [] (ia, la, zRA pl dr cp cw rp) K)) := by
  refine (Q_iload_n zm_107 (Or.inl (by decide)) D107_16 rfl).trans ?_
  refine (Q_iload_n zm_107 (Or.inl (by decide)) D107_17 rfl).trans ?_
  refine (Q_iconst (v := 3) zm_107 (Or.inl (by decide)) D107_18 (by decide)).trans ?_
  refine (Q_imul zm_107 (Or.inl (by decide)) D107_19).trans ?_
  refine (Q_iconst (v := 3) zm_107 (Or.inl (by decide)) D107_20 (by decide)).trans ?_
  refine (Q_iadd zm_107 (Or.inl (by decide)) D107_21).trans ?_
  refine (Q_ic_ge (tgt := 99) zm_107 (Or.inl (by decide)) D107_22 (by decide)).trans ?_
  refine zif_c (fun h0_ => ?_) (fun h0_ => ?_)
  · refine (Q_iload_n zm_107 (Or.inl (by decide)) D107_99 rfl).trans ?_
    exact Q_ireturn zm_107 (Or.inl (by decide)) D107_100 rfl
  · refine (Q_sipush (v := 1000) zm_107 (Or.inl (by decide)) D107_25 (by decide)).trans ?_
    refine (Q_aload_n zm_107 (Or.inl (by decide)) D107_28 rfl).trans ?_
    refine (Q_getR (q := pl) zm_107 (Or.inl (by decide)) D107_29 zf_9_21 zs_9_1 zk_0.1 rfl).trans ?_
    refine (Q_getR (q := (pl + 2)) zm_107 (Or.inl (by decide)) D107_32 zf_9_147 zs_3_6 (zkp_0 hpl).1 (zrp_6 hpl)).trans ?_
    refine (Q_iload_n zm_107 (Or.inl (by decide)) D107_35 rfl).trans ?_
    refine (Q_iaload zm_107 (Or.inl (by decide)) D107_36 (zkp_2 hpl).1 (zkp_2 hpl).2).trans ?_
    refine zand_c (fun h1_ => ?_)
    refine (Q_imul zm_107 (Or.inl (by decide)) D107_37).trans ?_
    refine (Q_aload_n zm_107 (Or.inl (by decide)) D107_38 rfl).trans ?_
    refine (Q_getR (q := 72) zm_107 (Or.inl (by decide)) D107_39 zf_9_31 zs_9_3 zk_0.1 rfl).trans ?_
    refine (Q_getR (q := 74) zm_107 (Or.inl (by decide)) D107_42 zf_9_129 zs_8_3 zk_72.1 rfl).trans ?_
    refine (Q_iload_n zm_107 (Or.inl (by decide)) D107_45 rfl).trans ?_
    refine ((Q_iaload zm_107 (Or.inl (by decide)) D107_46 zk_74.1 zk_74.2).trans (zdrop h1_)).trans ?_
    refine (Q_isub zm_107 (Or.inl (by decide)) D107_47).trans ?_
    refine (Q_bis (as := [.int (((1000 : Int32) * (ia (pl + 2) (i3).toNatClampNeg)) - (ia 74 (i3).toNatClampNeg))]) (rest := []) zm_107 (Or.inl (by decide)) D107_48 zc_9_246 rfl (by decide) (by simp [zcat, Value.category]) rfl).trans ?_
    refine (Q_istore (ls' := [some (.ref 0), some (.int i1), some (.int i2), some (.int i3), some (.int (if 0 ≤ (((1000 : Int32) * (ia (pl + 2) (i3).toNatClampNeg)) - (ia 74 (i3).toNatClampNeg)) then (((1000 : Int32) * (ia (pl + 2) (i3).toNatClampNeg)) - (ia 74 (i3).toNatClampNeg)) else 0 - (((1000 : Int32) * (ia (pl + 2) (i3).toNatClampNeg)) - (ia 74 (i3).toNatClampNeg)))), a5]) zm_107 (Or.inl (by decide)) D107_51 rfl (Nat.le_of_ble_eq_true rfl) rfl).trans ?_
    refine (Q_iconst (v := 0) zm_107 (Or.inl (by decide)) D107_53 (by decide)).trans ?_
    refine (Q_istore (ls' := [some (.ref 0), some (.int i1), some (.int i2), some (.int i3), some (.int (if 0 ≤ (((1000 : Int32) * (ia (pl + 2) (i3).toNatClampNeg)) - (ia 74 (i3).toNatClampNeg)) then (((1000 : Int32) * (ia (pl + 2) (i3).toNatClampNeg)) - (ia 74 (i3).toNatClampNeg)) else 0 - (((1000 : Int32) * (ia (pl + 2) (i3).toNatClampNeg)) - (ia 74 (i3).toNatClampNeg)))), some (.int (0 : Int32))]) zm_107 (Or.inl (by decide)) D107_54 rfl (Nat.le_of_ble_eq_true rfl) rfl).trans ?_
    rfl

theorem b107_56 {d : Nat} {i1 : Int32} {i2 : Int32} {i3 : Int32} {i4 : Int32} {i5 : Int32} {ia : Nat → Nat → Int32} {la : Nat → Nat → Int64} {pl dr : Nat} {cp : Option Nat} {cw : Option Nat} {rp : Option Nat} {K : Option Value → zHP → Prop}  : zWP (d + 5) 107 56 [some (.ref 0), some (.int i1), some (.int i2), some (.int i3), some (.int i4), some (.int i5)] [] (ia, la, zRA pl dr cp cw rp) K = (if (100 : Int32) ≤ i5 then zWP (d + 5) 107 16 [some (.ref 0), some (.int i1), some (.int (if i2 < i5 then i5 else i2)), some (.int (i3 + (1 : Int32))), some (.int i4), some (.int i5)] [] (ia, la, zRA pl dr cp cw rp) K else (if i4 < (1000 : Int32) then zWP (d + 5) 107 16 [some (.ref 0), some (.int i1), some (.int (if i2 < i5 then i5 else i2)), some (.int (i3 + (1 : Int32))), some (.int i4), some (.int i5)] [] (ia, la, zRA pl dr cp cw rp) K else zWP (d + 5) 107 56 [some (.ref 0), some (.int i1), some (.int i2), some (.int i3), some (.int (i4 - (i4 / (2 : Int32)))), some (.int (i5 + (1 : Int32)))] [] (ia, la, zRA pl dr cp cw rp) K)) := by
  refine (Q_iload zm_107 (Or.inl (by decide)) D107_56 rfl).trans ?_
  refine (Q_bipush (v := 100) zm_107 (Or.inl (by decide)) D107_58 (by decide)).trans ?_
  refine (Q_ic_ge (tgt := 86) zm_107 (Or.inl (by decide)) D107_60 (by decide)).trans ?_
  refine zif_c (fun h0_ => ?_) (fun h0_ => ?_)
  · refine (Q_iload_n zm_107 (Or.inl (by decide)) D107_86 rfl).trans ?_
    refine (Q_iload zm_107 (Or.inl (by decide)) D107_87 rfl).trans ?_
    refine (Q_bis (as := [.int i2, .int i5]) (rest := []) zm_107 (Or.inl (by decide)) D107_89 zc_9_278 rfl (by decide) (by simp [zcat, Value.category]) rfl).trans ?_
    refine (Q_istore_n (ls' := [some (.ref 0), some (.int i1), some (.int (if i2 < i5 then i5 else i2)), some (.int i3), some (.int i4), some (.int i5)]) zm_107 (Or.inl (by decide)) D107_92 rfl (Nat.le_of_ble_eq_true rfl) rfl).trans ?_
    refine (Q_iinc (v := 1) (ls' := [some (.ref 0), some (.int i1), some (.int (if i2 < i5 then i5 else i2)), some (.int (i3 + (1 : Int32))), some (.int i4), some (.int i5)]) zm_107 (Or.inl (by decide)) D107_93 rfl rfl (by decide) rfl).trans ?_
    refine (Q_goto (tgt := 16) zm_107 (Or.inl (by decide)) D107_96 (by decide)).trans ?_
    rfl
  · refine (Q_iload zm_107 (Or.inl (by decide)) D107_63 rfl).trans ?_
    refine (Q_sipush (v := 1000) zm_107 (Or.inl (by decide)) D107_65 (by decide)).trans ?_
    refine (Q_ic_lt (tgt := 86) zm_107 (Or.inl (by decide)) D107_68 (by decide)).trans ?_
    refine zif_c (fun h1_ => ?_) (fun h1_ => ?_)
    · refine (Q_iload_n zm_107 (Or.inl (by decide)) D107_86 rfl).trans ?_
      refine (Q_iload zm_107 (Or.inl (by decide)) D107_87 rfl).trans ?_
      refine (Q_bis (as := [.int i2, .int i5]) (rest := []) zm_107 (Or.inl (by decide)) D107_89 zc_9_278 rfl (by decide) (by simp [zcat, Value.category]) rfl).trans ?_
      refine (Q_istore_n (ls' := [some (.ref 0), some (.int i1), some (.int (if i2 < i5 then i5 else i2)), some (.int i3), some (.int i4), some (.int i5)]) zm_107 (Or.inl (by decide)) D107_92 rfl (Nat.le_of_ble_eq_true rfl) rfl).trans ?_
      refine (Q_iinc (v := 1) (ls' := [some (.ref 0), some (.int i1), some (.int (if i2 < i5 then i5 else i2)), some (.int (i3 + (1 : Int32))), some (.int i4), some (.int i5)]) zm_107 (Or.inl (by decide)) D107_93 rfl rfl (by decide) rfl).trans ?_
      refine (Q_goto (tgt := 16) zm_107 (Or.inl (by decide)) D107_96 (by decide)).trans ?_
      rfl
    · refine (Q_iload zm_107 (Or.inl (by decide)) D107_71 rfl).trans ?_
      refine (Q_iload zm_107 (Or.inl (by decide)) D107_73 rfl).trans ?_
      refine (Q_iconst (v := 2) zm_107 (Or.inl (by decide)) D107_75 (by decide)).trans ?_
      refine (Q_idiv zm_107 (Or.inl (by decide)) D107_76 (by decide)).trans ?_
      refine (Q_isub zm_107 (Or.inl (by decide)) D107_77).trans ?_
      refine (Q_istore (ls' := [some (.ref 0), some (.int i1), some (.int i2), some (.int i3), some (.int (i4 - (i4 / (2 : Int32)))), some (.int i5)]) zm_107 (Or.inl (by decide)) D107_78 rfl (Nat.le_of_ble_eq_true rfl) rfl).trans ?_
      refine (Q_iinc (v := 1) (ls' := [some (.ref 0), some (.int i1), some (.int i2), some (.int i3), some (.int (i4 - (i4 / (2 : Int32)))), some (.int (i5 + (1 : Int32)))]) zm_107 (Or.inl (by decide)) D107_80 rfl rfl (by decide) rfl).trans ?_
      refine (Q_goto (tgt := 56) zm_107 (Or.inl (by decide)) D107_83 (by decide)).trans ?_
      rfl

/-! HandsLet.arePlayers(II)Z -/
theorem D108_0 : decode prog_1_method_35_code 0 = .ok (.aload_n 0, 1) := by decide +kernel
theorem D108_1 : decode prog_1_method_35_code 1 = .ok (.iload_n 1, 1) := by decide +kernel
theorem D108_2 : decode prog_1_method_35_code 2 = .ok (.invokevirtual 122, 3) := by decide +kernel
theorem D108_5 : decode prog_1_method_35_code 5 = .ok (.ifCond .eq 20, 3) := by decide +kernel
theorem D108_8 : decode prog_1_method_35_code 8 = .ok (.aload_n 0, 1) := by decide +kernel
theorem D108_9 : decode prog_1_method_35_code 9 = .ok (.iload_n 2, 1) := by decide +kernel
theorem D108_10 : decode prog_1_method_35_code 10 = .ok (.invokevirtual 122, 3) := by decide +kernel
theorem D108_13 : decode prog_1_method_35_code 13 = .ok (.ifCond .eq 12, 3) := by decide +kernel
theorem D108_16 : decode prog_1_method_35_code 16 = .ok (.iload_n 1, 1) := by decide +kernel
theorem D108_17 : decode prog_1_method_35_code 17 = .ok (.iload_n 2, 1) := by decide +kernel
theorem D108_18 : decode prog_1_method_35_code 18 = .ok (.if_icmp .eq 7, 3) := by decide +kernel
theorem D108_21 : decode prog_1_method_35_code 21 = .ok (.iconst 1, 1) := by decide +kernel
theorem D108_22 : decode prog_1_method_35_code 22 = .ok (.goto 4, 3) := by decide +kernel
theorem D108_25 : decode prog_1_method_35_code 25 = .ok (.iconst 0, 1) := by decide +kernel
theorem D108_26 : decode prog_1_method_35_code 26 = .ok (.ireturn, 1) := by decide +kernel

theorem b108_0 {d : Nat} {i1 : Int32} {i2 : Int32} {ia : Nat → Nat → Int32} {la : Nat → Nat → Int64} {pl dr : Nat} {cp : Option Nat} {cw : Option Nat} {rp : Option Nat} {K : Option Value → zHP → Prop}  : zWP (d + 1) 108 0 [some (.ref 0), some (.int i1), some (.int i2)] [] (ia, la, zRA pl dr cp cw rp) K = zWM d 80 [.ref 0, .int i1] (ia, la, zRA pl dr cp cw rp) (zK (d + 1) 108 5 [some (.ref 0), some (.int i1), some (.int i2)] [] K) := by
  refine (Q_aload_n zm_108 (Or.inl (by decide)) D108_0 rfl).trans ?_
  refine (Q_iload_n zm_108 (Or.inl (by decide)) D108_1 rfl).trans ?_
  exact Q_callv (as := [.int i1]) (b := 0) (rest := []) zm_108 (Or.inl (by decide)) D108_2 zc_9_122 rfl zk_0.1 (by decide) (by decide +kernel) (by decide) (by simp [zcat, Value.category]) zm_80 rfl

theorem b108_5 {d : Nat} {i1 : Int32} {i2 : Int32} {s0 : Int32} {ia : Nat → Nat → Int32} {la : Nat → Nat → Int64} {pl dr : Nat} {cp : Option Nat} {cw : Option Nat} {rp : Option Nat} {K : Option Value → zHP → Prop}  : zWP (d + 1) 108 5 [some (.ref 0), some (.int i1), some (.int i2)] [.int s0] (ia, la, zRA pl dr cp cw rp) K = (if s0 = 0 then K (some (.int (0 : Int32))) (ia, la, zRA pl dr cp cw rp) else zWM d 80 [.ref 0, .int i2] (ia, la, zRA pl dr cp cw rp) (zK (d + 1) 108 13 [some (.ref 0), some (.int i1), some (.int i2)] [] K)) := by
  refine (Q_if_eq (tgt := 25) zm_108 (Or.inl (by decide)) D108_5 (by decide)).trans ?_
  refine zif_c (fun h0_ => ?_) (fun h0_ => ?_)
  · refine (Q_iconst (v := 0) zm_108 (Or.inl (by decide)) D108_25 (by decide)).trans ?_
    exact Q_zreturn zm_108 (Or.inl (by decide)) D108_26 rfl (by decide)
  · refine (Q_aload_n zm_108 (Or.inl (by decide)) D108_8 rfl).trans ?_
    refine (Q_iload_n zm_108 (Or.inl (by decide)) D108_9 rfl).trans ?_
    exact Q_callv (as := [.int i2]) (b := 0) (rest := []) zm_108 (Or.inl (by decide)) D108_10 zc_9_122 rfl zk_0.1 (by decide) (by decide +kernel) (by decide) (by simp [zcat, Value.category]) zm_80 rfl

theorem b108_13 {d : Nat} {i1 : Int32} {i2 : Int32} {s0 : Int32} {ia : Nat → Nat → Int32} {la : Nat → Nat → Int64} {pl dr : Nat} {cp : Option Nat} {cw : Option Nat} {rp : Option Nat} {K : Option Value → zHP → Prop}  : zWP d 108 13 [some (.ref 0), some (.int i1), some (.int i2)] [.int s0] (ia, la, zRA pl dr cp cw rp) K = (if s0 = 0 then K (some (.int (0 : Int32))) (ia, la, zRA pl dr cp cw rp) else (if i1 = i2 then K (some (.int (0 : Int32))) (ia, la, zRA pl dr cp cw rp) else K (some (.int (1 : Int32))) (ia, la, zRA pl dr cp cw rp))) := by
  refine (Q_if_eq (tgt := 25) zm_108 (Or.inl (by decide)) D108_13 (by decide)).trans ?_
  refine zif_c (fun h0_ => ?_) (fun h0_ => ?_)
  · refine (Q_iconst (v := 0) zm_108 (Or.inl (by decide)) D108_25 (by decide)).trans ?_
    exact Q_zreturn zm_108 (Or.inl (by decide)) D108_26 rfl (by decide)
  · refine (Q_iload_n zm_108 (Or.inl (by decide)) D108_16 rfl).trans ?_
    refine (Q_iload_n zm_108 (Or.inl (by decide)) D108_17 rfl).trans ?_
    refine (Q_ic_eq (tgt := 25) zm_108 (Or.inl (by decide)) D108_18 (by decide)).trans ?_
    refine zif_c (fun h1_ => ?_) (fun h1_ => ?_)
    · refine (Q_iconst (v := 0) zm_108 (Or.inl (by decide)) D108_25 (by decide)).trans ?_
      exact Q_zreturn zm_108 (Or.inl (by decide)) D108_26 rfl (by decide)
    · refine (Q_iconst (v := 1) zm_108 (Or.inl (by decide)) D108_21 (by decide)).trans ?_
      refine (Q_goto (tgt := 26) zm_108 (Or.inl (by decide)) D108_22 (by decide)).trans ?_
      exact Q_zreturn zm_108 (Or.inl (by decide)) D108_26 rfl (by decide)

/-! HandsLet.gain(IIII)I -/
theorem D109_0 : decode prog_1_method_36_code 0 = .ok (.iload_n 3, 1) := by decide +kernel
theorem D109_1 : decode prog_1_method_36_code 1 = .ok (.ifCond .ne 14, 3) := by decide +kernel
theorem D109_4 : decode prog_1_method_36_code 4 = .ok (.iload 4, 2) := by decide +kernel
theorem D109_6 : decode prog_1_method_36_code 6 = .ok (.ifCond .ne 7, 3) := by decide +kernel
theorem D109_9 : decode prog_1_method_36_code 9 = .ok (.iconst 2, 1) := by decide +kernel
theorem D109_10 : decode prog_1_method_36_code 10 = .ok (.goto 4, 3) := by decide +kernel
theorem D109_13 : decode prog_1_method_36_code 13 = .ok (.iconst 1, 1) := by decide +kernel
theorem D109_14 : decode prog_1_method_36_code 14 = .ok (.ireturn, 1) := by decide +kernel
theorem D109_15 : decode prog_1_method_36_code 15 = .ok (.iload 4, 2) := by decide +kernel
theorem D109_17 : decode prog_1_method_36_code 17 = .ok (.ifCond .ne 16, 3) := by decide +kernel
theorem D109_20 : decode prog_1_method_36_code 20 = .ok (.aload_n 0, 1) := by decide +kernel
theorem D109_21 : decode prog_1_method_36_code 21 = .ok (.getfield 31, 3) := by decide +kernel
theorem D109_24 : decode prog_1_method_36_code 24 = .ok (.getfield 148, 3) := by decide +kernel
theorem D109_27 : decode prog_1_method_36_code 27 = .ok (.iload_n 2, 1) := by decide +kernel
theorem D109_28 : decode prog_1_method_36_code 28 = .ok (.iaload, 1) := by decide +kernel
theorem D109_29 : decode prog_1_method_36_code 29 = .ok (.bipush 10, 2) := by decide +kernel
theorem D109_31 : decode prog_1_method_36_code 31 = .ok (.idiv, 1) := by decide +kernel
theorem D109_32 : decode prog_1_method_36_code 32 = .ok (.ireturn, 1) := by decide +kernel
theorem D109_33 : decode prog_1_method_36_code 33 = .ok (.aload_n 0, 1) := by decide +kernel
theorem D109_34 : decode prog_1_method_36_code 34 = .ok (.aload_n 0, 1) := by decide +kernel
theorem D109_35 : decode prog_1_method_36_code 35 = .ok (.getfield 31, 3) := by decide +kernel
theorem D109_38 : decode prog_1_method_36_code 38 = .ok (.getfield 129, 3) := by decide +kernel
theorem D109_41 : decode prog_1_method_36_code 41 = .ok (.iload_n 1, 1) := by decide +kernel
theorem D109_42 : decode prog_1_method_36_code 42 = .ok (.iload_n 2, 1) := by decide +kernel
theorem D109_43 : decode prog_1_method_36_code 43 = .ok (.invokevirtual 220, 3) := by decide +kernel
theorem D109_46 : decode prog_1_method_36_code 46 = .ok (.sipush 20000, 3) := by decide +kernel
theorem D109_49 : decode prog_1_method_36_code 49 = .ok (.idiv, 1) := by decide +kernel
theorem D109_50 : decode prog_1_method_36_code 50 = .ok (.ireturn, 1) := by decide +kernel

theorem b109_0 {d : Nat} {i1 : Int32} {i2 : Int32} {i3 : Int32} {i4 : Int32} {ia : Nat → Nat → Int32} {la : Nat → Nat → Int64} {pl dr : Nat} {cp : Option Nat} {cw : Option Nat} {rp : Option Nat} {K : Option Value → zHP → Prop}  : zWP (d + 1) 109 0 [some (.ref 0), some (.int i1), some (.int i2), some (.int i3), some (.int i4)] [] (ia, la, zRA pl dr cp cw rp) K = (if ¬ i3 = 0 then (if ¬ i4 = 0 then zWM d 95 [.ref 0, .ref 74, .int i1, .int i2] (ia, la, zRA pl dr cp cw rp) (zK (d + 1) 109 46 [some (.ref 0), some (.int i1), some (.int i2), some (.int i3), some (.int i4)] [] K) else (vp_in i2 6 ∧ K (some (.int ((ia 73 (i2).toNatClampNeg) / (10 : Int32)))) (ia, la, zRA pl dr cp cw rp))) else (if ¬ i4 = 0 then K (some (.int (1 : Int32))) (ia, la, zRA pl dr cp cw rp) else K (some (.int (2 : Int32))) (ia, la, zRA pl dr cp cw rp))) := by
  refine (Q_iload_n zm_109 (Or.inl (by decide)) D109_0 rfl).trans ?_
  refine (Q_if_ne (tgt := 15) zm_109 (Or.inl (by decide)) D109_1 (by decide)).trans ?_
  refine zif_c (fun h0_ => ?_) (fun h0_ => ?_)
  · refine (Q_iload zm_109 (Or.inl (by decide)) D109_15 rfl).trans ?_
    refine (Q_if_ne (tgt := 33) zm_109 (Or.inl (by decide)) D109_17 (by decide)).trans ?_
    refine zif_c (fun h1_ => ?_) (fun h1_ => ?_)
    · refine (Q_aload_n zm_109 (Or.inl (by decide)) D109_33 rfl).trans ?_
      refine (Q_aload_n zm_109 (Or.inl (by decide)) D109_34 rfl).trans ?_
      refine (Q_getR (q := 72) zm_109 (Or.inl (by decide)) D109_35 zf_9_31 zs_9_3 zk_0.1 rfl).trans ?_
      refine (Q_getR (q := 74) zm_109 (Or.inl (by decide)) D109_38 zf_9_129 zs_8_3 zk_72.1 rfl).trans ?_
      refine (Q_iload_n zm_109 (Or.inl (by decide)) D109_41 rfl).trans ?_
      refine (Q_iload_n zm_109 (Or.inl (by decide)) D109_42 rfl).trans ?_
      exact Q_callv (as := [.ref 74, .int i1, .int i2]) (b := 0) (rest := []) zm_109 (Or.inl (by decide)) D109_43 zc_9_220 rfl zk_0.1 (by decide) (by decide +kernel) (by decide) (by simp [zcat, Value.category]) zm_95 rfl
    · refine (Q_aload_n zm_109 (Or.inl (by decide)) D109_20 rfl).trans ?_
      refine (Q_getR (q := 72) zm_109 (Or.inl (by decide)) D109_21 zf_9_31 zs_9_3 zk_0.1 rfl).trans ?_
      refine (Q_getR (q := 73) zm_109 (Or.inl (by decide)) D109_24 zf_9_148 zs_8_2 zk_72.1 rfl).trans ?_
      refine (Q_iload_n zm_109 (Or.inl (by decide)) D109_27 rfl).trans ?_
      refine (Q_iaload zm_109 (Or.inl (by decide)) D109_28 zk_73.1 zk_73.2).trans ?_
      refine zand_c (fun h2_ => ?_)
      refine (Q_bipush (v := 10) zm_109 (Or.inl (by decide)) D109_29 (by decide)).trans ?_
      refine (Q_idiv zm_109 (Or.inl (by decide)) D109_31 (by decide)).trans ?_
      exact Q_ireturn zm_109 (Or.inl (by decide)) D109_32 rfl
  · refine (Q_iload zm_109 (Or.inl (by decide)) D109_4 rfl).trans ?_
    refine (Q_if_ne (tgt := 13) zm_109 (Or.inl (by decide)) D109_6 (by decide)).trans ?_
    refine zif_c (fun h3_ => ?_) (fun h3_ => ?_)
    · refine (Q_iconst (v := 1) zm_109 (Or.inl (by decide)) D109_13 (by decide)).trans ?_
      exact Q_ireturn zm_109 (Or.inl (by decide)) D109_14 rfl
    · refine (Q_iconst (v := 2) zm_109 (Or.inl (by decide)) D109_9 (by decide)).trans ?_
      refine (Q_goto (tgt := 14) zm_109 (Or.inl (by decide)) D109_10 (by decide)).trans ?_
      exact Q_ireturn zm_109 (Or.inl (by decide)) D109_14 rfl

theorem b109_46 {d : Nat} {i1 : Int32} {i2 : Int32} {i3 : Int32} {i4 : Int32} {s0 : Int32} {ia : Nat → Nat → Int32} {la : Nat → Nat → Int64} {pl dr : Nat} {cp : Option Nat} {cw : Option Nat} {rp : Option Nat} {K : Option Value → zHP → Prop}  : zWP d 109 46 [some (.ref 0), some (.int i1), some (.int i2), some (.int i3), some (.int i4)] [.int s0] (ia, la, zRA pl dr cp cw rp) K = K (some (.int (s0 / (20000 : Int32)))) (ia, la, zRA pl dr cp cw rp) := by
  refine (Q_sipush (v := 20000) zm_109 (Or.inl (by decide)) D109_46 (by decide)).trans ?_
  refine (Q_idiv zm_109 (Or.inl (by decide)) D109_49 (by decide)).trans ?_
  exact Q_ireturn zm_109 (Or.inl (by decide)) D109_50 rfl

/-! HandsLet.isRest(IIII)Z -/
theorem D110_0 : decode prog_1_method_37_code 0 = .ok (.aload_n 0, 1) := by decide +kernel
theorem D110_1 : decode prog_1_method_37_code 1 = .ok (.iload_n 1, 1) := by decide +kernel
theorem D110_2 : decode prog_1_method_37_code 2 = .ok (.iload_n 2, 1) := by decide +kernel
theorem D110_3 : decode prog_1_method_37_code 3 = .ok (.iconst 1, 1) := by decide +kernel
theorem D110_4 : decode prog_1_method_37_code 4 = .ok (.iload_n 3, 1) := by decide +kernel
theorem D110_5 : decode prog_1_method_37_code 5 = .ok (.isub, 1) := by decide +kernel
theorem D110_6 : decode prog_1_method_37_code 6 = .ok (.iload 4, 2) := by decide +kernel
theorem D110_8 : decode prog_1_method_37_code 8 = .ok (.invokevirtual 287, 3) := by decide +kernel
theorem D110_11 : decode prog_1_method_37_code 11 = .ok (.aload_n 0, 1) := by decide +kernel
theorem D110_12 : decode prog_1_method_37_code 12 = .ok (.iload_n 1, 1) := by decide +kernel
theorem D110_13 : decode prog_1_method_37_code 13 = .ok (.iload_n 2, 1) := by decide +kernel
theorem D110_14 : decode prog_1_method_37_code 14 = .ok (.iload_n 3, 1) := by decide +kernel
theorem D110_15 : decode prog_1_method_37_code 15 = .ok (.iload 4, 2) := by decide +kernel
theorem D110_17 : decode prog_1_method_37_code 17 = .ok (.invokevirtual 287, 3) := by decide +kernel
theorem D110_20 : decode prog_1_method_37_code 20 = .ok (.if_icmp .gt 30, 3) := by decide +kernel
theorem D110_23 : decode prog_1_method_37_code 23 = .ok (.aload_n 0, 1) := by decide +kernel
theorem D110_24 : decode prog_1_method_37_code 24 = .ok (.iload_n 2, 1) := by decide +kernel
theorem D110_25 : decode prog_1_method_37_code 25 = .ok (.iload_n 1, 1) := by decide +kernel
theorem D110_26 : decode prog_1_method_37_code 26 = .ok (.iconst 1, 1) := by decide +kernel
theorem D110_27 : decode prog_1_method_37_code 27 = .ok (.iload 4, 2) := by decide +kernel
theorem D110_29 : decode prog_1_method_37_code 29 = .ok (.isub, 1) := by decide +kernel
theorem D110_30 : decode prog_1_method_37_code 30 = .ok (.iload_n 3, 1) := by decide +kernel
theorem D110_31 : decode prog_1_method_37_code 31 = .ok (.invokevirtual 287, 3) := by decide +kernel
theorem D110_34 : decode prog_1_method_37_code 34 = .ok (.aload_n 0, 1) := by decide +kernel
theorem D110_35 : decode prog_1_method_37_code 35 = .ok (.iload_n 2, 1) := by decide +kernel
theorem D110_36 : decode prog_1_method_37_code 36 = .ok (.iload_n 1, 1) := by decide +kernel
theorem D110_37 : decode prog_1_method_37_code 37 = .ok (.iload 4, 2) := by decide +kernel
theorem D110_39 : decode prog_1_method_37_code 39 = .ok (.iload_n 3, 1) := by decide +kernel
theorem D110_40 : decode prog_1_method_37_code 40 = .ok (.invokevirtual 287, 3) := by decide +kernel
theorem D110_43 : decode prog_1_method_37_code 43 = .ok (.if_icmp .gt 7, 3) := by decide +kernel
theorem D110_46 : decode prog_1_method_37_code 46 = .ok (.iconst 1, 1) := by decide +kernel
theorem D110_47 : decode prog_1_method_37_code 47 = .ok (.goto 4, 3) := by decide +kernel
theorem D110_50 : decode prog_1_method_37_code 50 = .ok (.iconst 0, 1) := by decide +kernel
theorem D110_51 : decode prog_1_method_37_code 51 = .ok (.ireturn, 1) := by decide +kernel

theorem b110_0 {d : Nat} {i1 : Int32} {i2 : Int32} {i3 : Int32} {i4 : Int32} {ia : Nat → Nat → Int32} {la : Nat → Nat → Int64} {pl dr : Nat} {cp : Option Nat} {cw : Option Nat} {rp : Option Nat} {K : Option Value → zHP → Prop}  : zWP (d + 1) 110 0 [some (.ref 0), some (.int i1), some (.int i2), some (.int i3), some (.int i4)] [] (ia, la, zRA pl dr cp cw rp) K = zWM d 109 [.ref 0, .int i1, .int i2, .int ((1 : Int32) - i3), .int i4] (ia, la, zRA pl dr cp cw rp) (zK (d + 1) 110 11 [some (.ref 0), some (.int i1), some (.int i2), some (.int i3), some (.int i4)] [] K) := by
  refine (Q_aload_n zm_110 (Or.inl (by decide)) D110_0 rfl).trans ?_
  refine (Q_iload_n zm_110 (Or.inl (by decide)) D110_1 rfl).trans ?_
  refine (Q_iload_n zm_110 (Or.inl (by decide)) D110_2 rfl).trans ?_
  refine (Q_iconst (v := 1) zm_110 (Or.inl (by decide)) D110_3 (by decide)).trans ?_
  refine (Q_iload_n zm_110 (Or.inl (by decide)) D110_4 rfl).trans ?_
  refine (Q_isub zm_110 (Or.inl (by decide)) D110_5).trans ?_
  refine (Q_iload zm_110 (Or.inl (by decide)) D110_6 rfl).trans ?_
  exact Q_callv (as := [.int i1, .int i2, .int ((1 : Int32) - i3), .int i4]) (b := 0) (rest := []) zm_110 (Or.inl (by decide)) D110_8 zc_9_287 rfl zk_0.1 (by decide) (by decide +kernel) (by decide) (by simp [zcat, Value.category]) zm_109 rfl

theorem b110_11 {d : Nat} {i1 : Int32} {i2 : Int32} {i3 : Int32} {i4 : Int32} {s0 : Int32} {ia : Nat → Nat → Int32} {la : Nat → Nat → Int64} {pl dr : Nat} {cp : Option Nat} {cw : Option Nat} {rp : Option Nat} {K : Option Value → zHP → Prop}  : zWP (d + 1) 110 11 [some (.ref 0), some (.int i1), some (.int i2), some (.int i3), some (.int i4)] [.int s0] (ia, la, zRA pl dr cp cw rp) K = zWM d 109 [.ref 0, .int i1, .int i2, .int i3, .int i4] (ia, la, zRA pl dr cp cw rp) (zK (d + 1) 110 20 [some (.ref 0), some (.int i1), some (.int i2), some (.int i3), some (.int i4)] [.int s0] K) := by
  refine (Q_aload_n zm_110 (Or.inl (by decide)) D110_11 rfl).trans ?_
  refine (Q_iload_n zm_110 (Or.inl (by decide)) D110_12 rfl).trans ?_
  refine (Q_iload_n zm_110 (Or.inl (by decide)) D110_13 rfl).trans ?_
  refine (Q_iload_n zm_110 (Or.inl (by decide)) D110_14 rfl).trans ?_
  refine (Q_iload zm_110 (Or.inl (by decide)) D110_15 rfl).trans ?_
  exact Q_callv (as := [.int i1, .int i2, .int i3, .int i4]) (b := 0) (rest := [.int s0]) zm_110 (Or.inl (by decide)) D110_17 zc_9_287 rfl zk_0.1 (by decide) (by decide +kernel) (by decide) (by simp [zcat, Value.category]) zm_109 rfl

theorem b110_20 {d : Nat} {i1 : Int32} {i2 : Int32} {i3 : Int32} {i4 : Int32} {s0 : Int32} {s1 : Int32} {ia : Nat → Nat → Int32} {la : Nat → Nat → Int64} {pl dr : Nat} {cp : Option Nat} {cw : Option Nat} {rp : Option Nat} {K : Option Value → zHP → Prop}  : zWP (d + 1) 110 20 [some (.ref 0), some (.int i1), some (.int i2), some (.int i3), some (.int i4)] [.int s1, .int s0] (ia, la, zRA pl dr cp cw rp) K = (if s1 < s0 then K (some (.int (0 : Int32))) (ia, la, zRA pl dr cp cw rp) else zWM d 109 [.ref 0, .int i2, .int i1, .int ((1 : Int32) - i4), .int i3] (ia, la, zRA pl dr cp cw rp) (zK (d + 1) 110 34 [some (.ref 0), some (.int i1), some (.int i2), some (.int i3), some (.int i4)] [] K)) := by
  refine (Q_ic_gt (tgt := 50) zm_110 (Or.inl (by decide)) D110_20 (by decide)).trans ?_
  refine zif_c (fun h0_ => ?_) (fun h0_ => ?_)
  · refine (Q_iconst (v := 0) zm_110 (Or.inl (by decide)) D110_50 (by decide)).trans ?_
    exact Q_zreturn zm_110 (Or.inl (by decide)) D110_51 rfl (by decide)
  · refine (Q_aload_n zm_110 (Or.inl (by decide)) D110_23 rfl).trans ?_
    refine (Q_iload_n zm_110 (Or.inl (by decide)) D110_24 rfl).trans ?_
    refine (Q_iload_n zm_110 (Or.inl (by decide)) D110_25 rfl).trans ?_
    refine (Q_iconst (v := 1) zm_110 (Or.inl (by decide)) D110_26 (by decide)).trans ?_
    refine (Q_iload zm_110 (Or.inl (by decide)) D110_27 rfl).trans ?_
    refine (Q_isub zm_110 (Or.inl (by decide)) D110_29).trans ?_
    refine (Q_iload_n zm_110 (Or.inl (by decide)) D110_30 rfl).trans ?_
    exact Q_callv (as := [.int i2, .int i1, .int ((1 : Int32) - i4), .int i3]) (b := 0) (rest := []) zm_110 (Or.inl (by decide)) D110_31 zc_9_287 rfl zk_0.1 (by decide) (by decide +kernel) (by decide) (by simp [zcat, Value.category]) zm_109 rfl

theorem b110_34 {d : Nat} {i1 : Int32} {i2 : Int32} {i3 : Int32} {i4 : Int32} {s0 : Int32} {ia : Nat → Nat → Int32} {la : Nat → Nat → Int64} {pl dr : Nat} {cp : Option Nat} {cw : Option Nat} {rp : Option Nat} {K : Option Value → zHP → Prop}  : zWP (d + 1) 110 34 [some (.ref 0), some (.int i1), some (.int i2), some (.int i3), some (.int i4)] [.int s0] (ia, la, zRA pl dr cp cw rp) K = zWM d 109 [.ref 0, .int i2, .int i1, .int i4, .int i3] (ia, la, zRA pl dr cp cw rp) (zK (d + 1) 110 43 [some (.ref 0), some (.int i1), some (.int i2), some (.int i3), some (.int i4)] [.int s0] K) := by
  refine (Q_aload_n zm_110 (Or.inl (by decide)) D110_34 rfl).trans ?_
  refine (Q_iload_n zm_110 (Or.inl (by decide)) D110_35 rfl).trans ?_
  refine (Q_iload_n zm_110 (Or.inl (by decide)) D110_36 rfl).trans ?_
  refine (Q_iload zm_110 (Or.inl (by decide)) D110_37 rfl).trans ?_
  refine (Q_iload_n zm_110 (Or.inl (by decide)) D110_39 rfl).trans ?_
  exact Q_callv (as := [.int i2, .int i1, .int i4, .int i3]) (b := 0) (rest := [.int s0]) zm_110 (Or.inl (by decide)) D110_40 zc_9_287 rfl zk_0.1 (by decide) (by decide +kernel) (by decide) (by simp [zcat, Value.category]) zm_109 rfl

theorem b110_43 {d : Nat} {i1 : Int32} {i2 : Int32} {i3 : Int32} {i4 : Int32} {s0 : Int32} {s1 : Int32} {ia : Nat → Nat → Int32} {la : Nat → Nat → Int64} {pl dr : Nat} {cp : Option Nat} {cw : Option Nat} {rp : Option Nat} {K : Option Value → zHP → Prop}  : zWP d 110 43 [some (.ref 0), some (.int i1), some (.int i2), some (.int i3), some (.int i4)] [.int s1, .int s0] (ia, la, zRA pl dr cp cw rp) K = (if s1 < s0 then K (some (.int (0 : Int32))) (ia, la, zRA pl dr cp cw rp) else K (some (.int (1 : Int32))) (ia, la, zRA pl dr cp cw rp)) := by
  refine (Q_ic_gt (tgt := 50) zm_110 (Or.inl (by decide)) D110_43 (by decide)).trans ?_
  refine zif_c (fun h0_ => ?_) (fun h0_ => ?_)
  · refine (Q_iconst (v := 0) zm_110 (Or.inl (by decide)) D110_50 (by decide)).trans ?_
    exact Q_zreturn zm_110 (Or.inl (by decide)) D110_51 rfl (by decide)
  · refine (Q_iconst (v := 1) zm_110 (Or.inl (by decide)) D110_46 (by decide)).trans ?_
    refine (Q_goto (tgt := 51) zm_110 (Or.inl (by decide)) D110_47 (by decide)).trans ?_
    exact Q_zreturn zm_110 (Or.inl (by decide)) D110_51 rfl (by decide)

/-! HandsLet.rests(II)I -/
theorem D111_0 : decode prog_1_method_38_code 0 = .ok (.aload_n 0, 1) := by decide +kernel
theorem D111_1 : decode prog_1_method_38_code 1 = .ok (.iload_n 1, 1) := by decide +kernel
theorem D111_2 : decode prog_1_method_38_code 2 = .ok (.iload_n 2, 1) := by decide +kernel
theorem D111_3 : decode prog_1_method_38_code 3 = .ok (.invokevirtual 290, 3) := by decide +kernel
theorem D111_6 : decode prog_1_method_38_code 6 = .ok (.ifCond .ne 5, 3) := by decide +kernel
theorem D111_9 : decode prog_1_method_38_code 9 = .ok (.iconst (-1), 1) := by decide +kernel
theorem D111_10 : decode prog_1_method_38_code 10 = .ok (.ireturn, 1) := by decide +kernel
theorem D111_11 : decode prog_1_method_38_code 11 = .ok (.iconst 0, 1) := by decide +kernel
theorem D111_12 : decode prog_1_method_38_code 12 = .ok (.istore_n 3, 1) := by decide +kernel
theorem D111_13 : decode prog_1_method_38_code 13 = .ok (.iconst 0, 1) := by decide +kernel
theorem D111_14 : decode prog_1_method_38_code 14 = .ok (.istore 4, 2) := by decide +kernel
theorem D111_16 : decode prog_1_method_38_code 16 = .ok (.iload 4, 2) := by decide +kernel
theorem D111_18 : decode prog_1_method_38_code 18 = .ok (.iconst 4, 1) := by decide +kernel
theorem D111_19 : decode prog_1_method_38_code 19 = .ok (.if_icmp .ge 29, 3) := by decide +kernel
theorem D111_22 : decode prog_1_method_38_code 22 = .ok (.aload_n 0, 1) := by decide +kernel
theorem D111_23 : decode prog_1_method_38_code 23 = .ok (.iload_n 1, 1) := by decide +kernel
theorem D111_24 : decode prog_1_method_38_code 24 = .ok (.iload_n 2, 1) := by decide +kernel
theorem D111_25 : decode prog_1_method_38_code 25 = .ok (.iload 4, 2) := by decide +kernel
theorem D111_27 : decode prog_1_method_38_code 27 = .ok (.iconst 2, 1) := by decide +kernel
theorem D111_28 : decode prog_1_method_38_code 28 = .ok (.idiv, 1) := by decide +kernel
theorem D111_29 : decode prog_1_method_38_code 29 = .ok (.iload 4, 2) := by decide +kernel
theorem D111_31 : decode prog_1_method_38_code 31 = .ok (.iconst 2, 1) := by decide +kernel
theorem D111_32 : decode prog_1_method_38_code 32 = .ok (.irem, 1) := by decide +kernel
theorem D111_33 : decode prog_1_method_38_code 33 = .ok (.invokevirtual 294, 3) := by decide +kernel
theorem D111_36 : decode prog_1_method_38_code 36 = .ok (.ifCond .eq 6, 3) := by decide +kernel
theorem D111_39 : decode prog_1_method_38_code 39 = .ok (.iinc 3 1, 3) := by decide +kernel
theorem D111_42 : decode prog_1_method_38_code 42 = .ok (.iinc 4 1, 3) := by decide +kernel
theorem D111_45 : decode prog_1_method_38_code 45 = .ok (.goto (-29), 3) := by decide +kernel
theorem D111_48 : decode prog_1_method_38_code 48 = .ok (.iload_n 3, 1) := by decide +kernel
theorem D111_49 : decode prog_1_method_38_code 49 = .ok (.ireturn, 1) := by decide +kernel

theorem b111_0 {d : Nat} {i1 : Int32} {i2 : Int32} {ia : Nat → Nat → Int32} {la : Nat → Nat → Int64} {pl dr : Nat} {cp : Option Nat} {cw : Option Nat} {rp : Option Nat} {K : Option Value → zHP → Prop}  : zWP (d + 1) 111 0 [some (.ref 0), some (.int i1), some (.int i2), none, none] [] (ia, la, zRA pl dr cp cw rp) K = zWM d 108 [.ref 0, .int i1, .int i2] (ia, la, zRA pl dr cp cw rp) (zK (d + 1) 111 6 [some (.ref 0), some (.int i1), some (.int i2), none, none] [] K) := by
  refine (Q_aload_n zm_111 (Or.inl (by decide)) D111_0 rfl).trans ?_
  refine (Q_iload_n zm_111 (Or.inl (by decide)) D111_1 rfl).trans ?_
  refine (Q_iload_n zm_111 (Or.inl (by decide)) D111_2 rfl).trans ?_
  exact Q_callv (as := [.int i1, .int i2]) (b := 0) (rest := []) zm_111 (Or.inl (by decide)) D111_3 zc_9_290 rfl zk_0.1 (by decide) (by decide +kernel) (by decide) (by simp [zcat, Value.category]) zm_108 rfl

theorem b111_6 {d : Nat} {i1 : Int32} {i2 : Int32} {s0 : Int32} {ia : Nat → Nat → Int32} {la : Nat → Nat → Int64} {pl dr : Nat} {cp : Option Nat} {cw : Option Nat} {rp : Option Nat} {K : Option Value → zHP → Prop}  : zWP d 111 6 [some (.ref 0), some (.int i1), some (.int i2), none, none] [.int s0] (ia, la, zRA pl dr cp cw rp) K = (if ¬ s0 = 0 then zWP d 111 16 [some (.ref 0), some (.int i1), some (.int i2), some (.int (0 : Int32)), some (.int (0 : Int32))] [] (ia, la, zRA pl dr cp cw rp) K else K (some (.int (-1 : Int32))) (ia, la, zRA pl dr cp cw rp)) := by
  refine (Q_if_ne (tgt := 11) zm_111 (Or.inl (by decide)) D111_6 (by decide)).trans ?_
  refine zif_c (fun h0_ => ?_) (fun h0_ => ?_)
  · refine (Q_iconst (v := 0) zm_111 (Or.inl (by decide)) D111_11 (by decide)).trans ?_
    refine (Q_istore_n (ls' := [some (.ref 0), some (.int i1), some (.int i2), some (.int (0 : Int32)), none]) zm_111 (Or.inl (by decide)) D111_12 rfl (Nat.le_of_ble_eq_true rfl) rfl).trans ?_
    refine (Q_iconst (v := 0) zm_111 (Or.inl (by decide)) D111_13 (by decide)).trans ?_
    refine (Q_istore (ls' := [some (.ref 0), some (.int i1), some (.int i2), some (.int (0 : Int32)), some (.int (0 : Int32))]) zm_111 (Or.inl (by decide)) D111_14 rfl (Nat.le_of_ble_eq_true rfl) rfl).trans ?_
    rfl
  · refine (Q_iconst (v := -1) zm_111 (Or.inl (by decide)) D111_9 (by decide)).trans ?_
    exact Q_ireturn zm_111 (Or.inl (by decide)) D111_10 rfl

theorem b111_16 {d : Nat} {i1 : Int32} {i2 : Int32} {i3 : Int32} {i4 : Int32} {ia : Nat → Nat → Int32} {la : Nat → Nat → Int64} {pl dr : Nat} {cp : Option Nat} {cw : Option Nat} {rp : Option Nat} {K : Option Value → zHP → Prop}  : zWP (d + 1) 111 16 [some (.ref 0), some (.int i1), some (.int i2), some (.int i3), some (.int i4)] [] (ia, la, zRA pl dr cp cw rp) K = (if (4 : Int32) ≤ i4 then K (some (.int i3)) (ia, la, zRA pl dr cp cw rp) else zWM d 110 [.ref 0, .int i1, .int i2, .int (i4 / (2 : Int32)), .int (i4 - i4 / (2 : Int32) * (2 : Int32))] (ia, la, zRA pl dr cp cw rp) (zK (d + 1) 111 36 [some (.ref 0), some (.int i1), some (.int i2), some (.int i3), some (.int i4)] [] K)) := by
  refine (Q_iload zm_111 (Or.inl (by decide)) D111_16 rfl).trans ?_
  refine (Q_iconst (v := 4) zm_111 (Or.inl (by decide)) D111_18 (by decide)).trans ?_
  refine (Q_ic_ge (tgt := 48) zm_111 (Or.inl (by decide)) D111_19 (by decide)).trans ?_
  refine zif_c (fun h0_ => ?_) (fun h0_ => ?_)
  · refine (Q_iload_n zm_111 (Or.inl (by decide)) D111_48 rfl).trans ?_
    exact Q_ireturn zm_111 (Or.inl (by decide)) D111_49 rfl
  · refine (Q_aload_n zm_111 (Or.inl (by decide)) D111_22 rfl).trans ?_
    refine (Q_iload_n zm_111 (Or.inl (by decide)) D111_23 rfl).trans ?_
    refine (Q_iload_n zm_111 (Or.inl (by decide)) D111_24 rfl).trans ?_
    refine (Q_iload zm_111 (Or.inl (by decide)) D111_25 rfl).trans ?_
    refine (Q_iconst (v := 2) zm_111 (Or.inl (by decide)) D111_27 (by decide)).trans ?_
    refine (Q_idiv zm_111 (Or.inl (by decide)) D111_28 (by decide)).trans ?_
    refine (Q_iload zm_111 (Or.inl (by decide)) D111_29 rfl).trans ?_
    refine (Q_iconst (v := 2) zm_111 (Or.inl (by decide)) D111_31 (by decide)).trans ?_
    refine (Q_irem zm_111 (Or.inl (by decide)) D111_32 (by decide)).trans ?_
    exact Q_callv (as := [.int i1, .int i2, .int (i4 / (2 : Int32)), .int (i4 - i4 / (2 : Int32) * (2 : Int32))]) (b := 0) (rest := []) zm_111 (Or.inl (by decide)) D111_33 zc_9_294 rfl zk_0.1 (by decide) (by decide +kernel) (by decide) (by simp [zcat, Value.category]) zm_110 rfl

theorem b111_36 {d : Nat} {i1 : Int32} {i2 : Int32} {i3 : Int32} {i4 : Int32} {s0 : Int32} {ia : Nat → Nat → Int32} {la : Nat → Nat → Int64} {pl dr : Nat} {cp : Option Nat} {cw : Option Nat} {rp : Option Nat} {K : Option Value → zHP → Prop}  : zWP d 111 36 [some (.ref 0), some (.int i1), some (.int i2), some (.int i3), some (.int i4)] [.int s0] (ia, la, zRA pl dr cp cw rp) K = (if s0 = 0 then zWP d 111 16 [some (.ref 0), some (.int i1), some (.int i2), some (.int i3), some (.int (i4 + (1 : Int32)))] [] (ia, la, zRA pl dr cp cw rp) K else zWP d 111 16 [some (.ref 0), some (.int i1), some (.int i2), some (.int (i3 + (1 : Int32))), some (.int (i4 + (1 : Int32)))] [] (ia, la, zRA pl dr cp cw rp) K) := by
  refine (Q_if_eq (tgt := 42) zm_111 (Or.inl (by decide)) D111_36 (by decide)).trans ?_
  refine zif_c (fun h0_ => ?_) (fun h0_ => ?_)
  · refine (Q_iinc (v := 1) (ls' := [some (.ref 0), some (.int i1), some (.int i2), some (.int i3), some (.int (i4 + (1 : Int32)))]) zm_111 (Or.inl (by decide)) D111_42 rfl rfl (by decide) rfl).trans ?_
    refine (Q_goto (tgt := 16) zm_111 (Or.inl (by decide)) D111_45 (by decide)).trans ?_
    rfl
  · refine (Q_iinc (v := 1) (ls' := [some (.ref 0), some (.int i1), some (.int i2), some (.int (i3 + (1 : Int32))), some (.int i4)]) zm_111 (Or.inl (by decide)) D111_39 rfl rfl (by decide) rfl).trans ?_
    refine (Q_iinc (v := 1) (ls' := [some (.ref 0), some (.int i1), some (.int i2), some (.int (i3 + (1 : Int32))), some (.int (i4 + (1 : Int32)))]) zm_111 (Or.inl (by decide)) D111_42 rfl rfl (by decide) rfl).trans ?_
    refine (Q_goto (tgt := 16) zm_111 (Or.inl (by decide)) D111_45 (by decide)).trans ?_
    rfl

/-! HandsLet.rest(III)I -/
theorem D112_0 : decode prog_1_method_39_code 0 = .ok (.aload_n 0, 1) := by decide +kernel
theorem D112_1 : decode prog_1_method_39_code 1 = .ok (.iload_n 1, 1) := by decide +kernel
theorem D112_2 : decode prog_1_method_39_code 2 = .ok (.iload_n 2, 1) := by decide +kernel
theorem D112_3 : decode prog_1_method_39_code 3 = .ok (.invokevirtual 290, 3) := by decide +kernel
theorem D112_6 : decode prog_1_method_39_code 6 = .ok (.ifCond .eq 7, 3) := by decide +kernel
theorem D112_9 : decode prog_1_method_39_code 9 = .ok (.iload_n 3, 1) := by decide +kernel
theorem D112_10 : decode prog_1_method_39_code 10 = .ok (.ifCond .ge 5, 3) := by decide +kernel
theorem D112_13 : decode prog_1_method_39_code 13 = .ok (.iconst (-1), 1) := by decide +kernel
theorem D112_14 : decode prog_1_method_39_code 14 = .ok (.ireturn, 1) := by decide +kernel
theorem D112_15 : decode prog_1_method_39_code 15 = .ok (.iconst 0, 1) := by decide +kernel
theorem D112_16 : decode prog_1_method_39_code 16 = .ok (.istore 4, 2) := by decide +kernel
theorem D112_18 : decode prog_1_method_39_code 18 = .ok (.iconst 0, 1) := by decide +kernel
theorem D112_19 : decode prog_1_method_39_code 19 = .ok (.istore 5, 2) := by decide +kernel
theorem D112_21 : decode prog_1_method_39_code 21 = .ok (.iload 5, 2) := by decide +kernel
theorem D112_23 : decode prog_1_method_39_code 23 = .ok (.iconst 4, 1) := by decide +kernel
theorem D112_24 : decode prog_1_method_39_code 24 = .ok (.if_icmp .ge 48, 3) := by decide +kernel
theorem D112_27 : decode prog_1_method_39_code 27 = .ok (.aload_n 0, 1) := by decide +kernel
theorem D112_28 : decode prog_1_method_39_code 28 = .ok (.iload_n 1, 1) := by decide +kernel
theorem D112_29 : decode prog_1_method_39_code 29 = .ok (.iload_n 2, 1) := by decide +kernel
theorem D112_30 : decode prog_1_method_39_code 30 = .ok (.iload 5, 2) := by decide +kernel
theorem D112_32 : decode prog_1_method_39_code 32 = .ok (.iconst 2, 1) := by decide +kernel
theorem D112_33 : decode prog_1_method_39_code 33 = .ok (.idiv, 1) := by decide +kernel
theorem D112_34 : decode prog_1_method_39_code 34 = .ok (.iload 5, 2) := by decide +kernel
theorem D112_36 : decode prog_1_method_39_code 36 = .ok (.iconst 2, 1) := by decide +kernel
theorem D112_37 : decode prog_1_method_39_code 37 = .ok (.irem, 1) := by decide +kernel
theorem D112_38 : decode prog_1_method_39_code 38 = .ok (.invokevirtual 294, 3) := by decide +kernel
theorem D112_41 : decode prog_1_method_39_code 41 = .ok (.ifCond .eq 25, 3) := by decide +kernel
theorem D112_44 : decode prog_1_method_39_code 44 = .ok (.iload 4, 2) := by decide +kernel
theorem D112_46 : decode prog_1_method_39_code 46 = .ok (.iload_n 3, 1) := by decide +kernel
theorem D112_47 : decode prog_1_method_39_code 47 = .ok (.if_icmp .ne 16, 3) := by decide +kernel
theorem D112_50 : decode prog_1_method_39_code 50 = .ok (.bipush 10, 2) := by decide +kernel
theorem D112_52 : decode prog_1_method_39_code 52 = .ok (.iload 5, 2) := by decide +kernel
theorem D112_54 : decode prog_1_method_39_code 54 = .ok (.iconst 2, 1) := by decide +kernel
theorem D112_55 : decode prog_1_method_39_code 55 = .ok (.idiv, 1) := by decide +kernel
theorem D112_56 : decode prog_1_method_39_code 56 = .ok (.imul, 1) := by decide +kernel
theorem D112_57 : decode prog_1_method_39_code 57 = .ok (.iload 5, 2) := by decide +kernel
theorem D112_59 : decode prog_1_method_39_code 59 = .ok (.iconst 2, 1) := by decide +kernel
theorem D112_60 : decode prog_1_method_39_code 60 = .ok (.irem, 1) := by decide +kernel
theorem D112_61 : decode prog_1_method_39_code 61 = .ok (.iadd, 1) := by decide +kernel
theorem D112_62 : decode prog_1_method_39_code 62 = .ok (.ireturn, 1) := by decide +kernel
theorem D112_63 : decode prog_1_method_39_code 63 = .ok (.iinc 4 1, 3) := by decide +kernel
theorem D112_66 : decode prog_1_method_39_code 66 = .ok (.iinc 5 1, 3) := by decide +kernel
theorem D112_69 : decode prog_1_method_39_code 69 = .ok (.goto (-48), 3) := by decide +kernel
theorem D112_72 : decode prog_1_method_39_code 72 = .ok (.bipush (-2), 2) := by decide +kernel
theorem D112_74 : decode prog_1_method_39_code 74 = .ok (.ireturn, 1) := by decide +kernel

theorem b112_0 {d : Nat} {i1 : Int32} {i2 : Int32} {i3 : Int32} {ia : Nat → Nat → Int32} {la : Nat → Nat → Int64} {pl dr : Nat} {cp : Option Nat} {cw : Option Nat} {rp : Option Nat} {K : Option Value → zHP → Prop}  : zWP (d + 1) 112 0 [some (.ref 0), some (.int i1), some (.int i2), some (.int i3), none, none] [] (ia, la, zRA pl dr cp cw rp) K = zWM d 108 [.ref 0, .int i1, .int i2] (ia, la, zRA pl dr cp cw rp) (zK (d + 1) 112 6 [some (.ref 0), some (.int i1), some (.int i2), some (.int i3), none, none] [] K) := by
  refine (Q_aload_n zm_112 (Or.inl (by decide)) D112_0 rfl).trans ?_
  refine (Q_iload_n zm_112 (Or.inl (by decide)) D112_1 rfl).trans ?_
  refine (Q_iload_n zm_112 (Or.inl (by decide)) D112_2 rfl).trans ?_
  exact Q_callv (as := [.int i1, .int i2]) (b := 0) (rest := []) zm_112 (Or.inl (by decide)) D112_3 zc_9_290 rfl zk_0.1 (by decide) (by decide +kernel) (by decide) (by simp [zcat, Value.category]) zm_108 rfl

theorem b112_6 {d : Nat} {i1 : Int32} {i2 : Int32} {i3 : Int32} {s0 : Int32} {ia : Nat → Nat → Int32} {la : Nat → Nat → Int64} {pl dr : Nat} {cp : Option Nat} {cw : Option Nat} {rp : Option Nat} {K : Option Value → zHP → Prop}  : zWP d 112 6 [some (.ref 0), some (.int i1), some (.int i2), some (.int i3), none, none] [.int s0] (ia, la, zRA pl dr cp cw rp) K = (if s0 = 0 then K (some (.int (-1 : Int32))) (ia, la, zRA pl dr cp cw rp) else (if 0 ≤ i3 then zWP d 112 21 [some (.ref 0), some (.int i1), some (.int i2), some (.int i3), some (.int (0 : Int32)), some (.int (0 : Int32))] [] (ia, la, zRA pl dr cp cw rp) K else K (some (.int (-1 : Int32))) (ia, la, zRA pl dr cp cw rp))) := by
  refine (Q_if_eq (tgt := 13) zm_112 (Or.inl (by decide)) D112_6 (by decide)).trans ?_
  refine zif_c (fun h0_ => ?_) (fun h0_ => ?_)
  · refine (Q_iconst (v := -1) zm_112 (Or.inl (by decide)) D112_13 (by decide)).trans ?_
    exact Q_ireturn zm_112 (Or.inl (by decide)) D112_14 rfl
  · refine (Q_iload_n zm_112 (Or.inl (by decide)) D112_9 rfl).trans ?_
    refine (Q_if_ge (tgt := 15) zm_112 (Or.inl (by decide)) D112_10 (by decide)).trans ?_
    refine zif_c (fun h1_ => ?_) (fun h1_ => ?_)
    · refine (Q_iconst (v := 0) zm_112 (Or.inl (by decide)) D112_15 (by decide)).trans ?_
      refine (Q_istore (ls' := [some (.ref 0), some (.int i1), some (.int i2), some (.int i3), some (.int (0 : Int32)), none]) zm_112 (Or.inl (by decide)) D112_16 rfl (Nat.le_of_ble_eq_true rfl) rfl).trans ?_
      refine (Q_iconst (v := 0) zm_112 (Or.inl (by decide)) D112_18 (by decide)).trans ?_
      refine (Q_istore (ls' := [some (.ref 0), some (.int i1), some (.int i2), some (.int i3), some (.int (0 : Int32)), some (.int (0 : Int32))]) zm_112 (Or.inl (by decide)) D112_19 rfl (Nat.le_of_ble_eq_true rfl) rfl).trans ?_
      rfl
    · refine (Q_iconst (v := -1) zm_112 (Or.inl (by decide)) D112_13 (by decide)).trans ?_
      exact Q_ireturn zm_112 (Or.inl (by decide)) D112_14 rfl

theorem b112_21 {d : Nat} {i1 : Int32} {i2 : Int32} {i3 : Int32} {i4 : Int32} {i5 : Int32} {ia : Nat → Nat → Int32} {la : Nat → Nat → Int64} {pl dr : Nat} {cp : Option Nat} {cw : Option Nat} {rp : Option Nat} {K : Option Value → zHP → Prop}  : zWP (d + 1) 112 21 [some (.ref 0), some (.int i1), some (.int i2), some (.int i3), some (.int i4), some (.int i5)] [] (ia, la, zRA pl dr cp cw rp) K = (if (4 : Int32) ≤ i5 then K (some (.int (-2 : Int32))) (ia, la, zRA pl dr cp cw rp) else zWM d 110 [.ref 0, .int i1, .int i2, .int (i5 / (2 : Int32)), .int (i5 - i5 / (2 : Int32) * (2 : Int32))] (ia, la, zRA pl dr cp cw rp) (zK (d + 1) 112 41 [some (.ref 0), some (.int i1), some (.int i2), some (.int i3), some (.int i4), some (.int i5)] [] K)) := by
  refine (Q_iload zm_112 (Or.inl (by decide)) D112_21 rfl).trans ?_
  refine (Q_iconst (v := 4) zm_112 (Or.inl (by decide)) D112_23 (by decide)).trans ?_
  refine (Q_ic_ge (tgt := 72) zm_112 (Or.inl (by decide)) D112_24 (by decide)).trans ?_
  refine zif_c (fun h0_ => ?_) (fun h0_ => ?_)
  · refine (Q_bipush (v := -2) zm_112 (Or.inl (by decide)) D112_72 (by decide)).trans ?_
    exact Q_ireturn zm_112 (Or.inl (by decide)) D112_74 rfl
  · refine (Q_aload_n zm_112 (Or.inl (by decide)) D112_27 rfl).trans ?_
    refine (Q_iload_n zm_112 (Or.inl (by decide)) D112_28 rfl).trans ?_
    refine (Q_iload_n zm_112 (Or.inl (by decide)) D112_29 rfl).trans ?_
    refine (Q_iload zm_112 (Or.inl (by decide)) D112_30 rfl).trans ?_
    refine (Q_iconst (v := 2) zm_112 (Or.inl (by decide)) D112_32 (by decide)).trans ?_
    refine (Q_idiv zm_112 (Or.inl (by decide)) D112_33 (by decide)).trans ?_
    refine (Q_iload zm_112 (Or.inl (by decide)) D112_34 rfl).trans ?_
    refine (Q_iconst (v := 2) zm_112 (Or.inl (by decide)) D112_36 (by decide)).trans ?_
    refine (Q_irem zm_112 (Or.inl (by decide)) D112_37 (by decide)).trans ?_
    exact Q_callv (as := [.int i1, .int i2, .int (i5 / (2 : Int32)), .int (i5 - i5 / (2 : Int32) * (2 : Int32))]) (b := 0) (rest := []) zm_112 (Or.inl (by decide)) D112_38 zc_9_294 rfl zk_0.1 (by decide) (by decide +kernel) (by decide) (by simp [zcat, Value.category]) zm_110 rfl

theorem b112_41 {d : Nat} {i1 : Int32} {i2 : Int32} {i3 : Int32} {i4 : Int32} {i5 : Int32} {s0 : Int32} {ia : Nat → Nat → Int32} {la : Nat → Nat → Int64} {pl dr : Nat} {cp : Option Nat} {cw : Option Nat} {rp : Option Nat} {K : Option Value → zHP → Prop}  : zWP d 112 41 [some (.ref 0), some (.int i1), some (.int i2), some (.int i3), some (.int i4), some (.int i5)] [.int s0] (ia, la, zRA pl dr cp cw rp) K = (if s0 = 0 then zWP d 112 21 [some (.ref 0), some (.int i1), some (.int i2), some (.int i3), some (.int i4), some (.int (i5 + (1 : Int32)))] [] (ia, la, zRA pl dr cp cw rp) K else (if ¬ i4 = i3 then zWP d 112 21 [some (.ref 0), some (.int i1), some (.int i2), some (.int i3), some (.int (i4 + (1 : Int32))), some (.int (i5 + (1 : Int32)))] [] (ia, la, zRA pl dr cp cw rp) K else K (some (.int (((10 : Int32) * (i5 / (2 : Int32))) + (i5 - i5 / (2 : Int32) * (2 : Int32))))) (ia, la, zRA pl dr cp cw rp))) := by
  refine (Q_if_eq (tgt := 66) zm_112 (Or.inl (by decide)) D112_41 (by decide)).trans ?_
  refine zif_c (fun h0_ => ?_) (fun h0_ => ?_)
  · refine (Q_iinc (v := 1) (ls' := [some (.ref 0), some (.int i1), some (.int i2), some (.int i3), some (.int i4), some (.int (i5 + (1 : Int32)))]) zm_112 (Or.inl (by decide)) D112_66 rfl rfl (by decide) rfl).trans ?_
    refine (Q_goto (tgt := 21) zm_112 (Or.inl (by decide)) D112_69 (by decide)).trans ?_
    rfl
  · refine (Q_iload zm_112 (Or.inl (by decide)) D112_44 rfl).trans ?_
    refine (Q_iload_n zm_112 (Or.inl (by decide)) D112_46 rfl).trans ?_
    refine (Q_ic_ne (tgt := 63) zm_112 (Or.inl (by decide)) D112_47 (by decide)).trans ?_
    refine zif_c (fun h1_ => ?_) (fun h1_ => ?_)
    · refine (Q_iinc (v := 1) (ls' := [some (.ref 0), some (.int i1), some (.int i2), some (.int i3), some (.int (i4 + (1 : Int32))), some (.int i5)]) zm_112 (Or.inl (by decide)) D112_63 rfl rfl (by decide) rfl).trans ?_
      refine (Q_iinc (v := 1) (ls' := [some (.ref 0), some (.int i1), some (.int i2), some (.int i3), some (.int (i4 + (1 : Int32))), some (.int (i5 + (1 : Int32)))]) zm_112 (Or.inl (by decide)) D112_66 rfl rfl (by decide) rfl).trans ?_
      refine (Q_goto (tgt := 21) zm_112 (Or.inl (by decide)) D112_69 (by decide)).trans ?_
      rfl
    · refine (Q_bipush (v := 10) zm_112 (Or.inl (by decide)) D112_50 (by decide)).trans ?_
      refine (Q_iload zm_112 (Or.inl (by decide)) D112_52 rfl).trans ?_
      refine (Q_iconst (v := 2) zm_112 (Or.inl (by decide)) D112_54 (by decide)).trans ?_
      refine (Q_idiv zm_112 (Or.inl (by decide)) D112_55 (by decide)).trans ?_
      refine (Q_imul zm_112 (Or.inl (by decide)) D112_56).trans ?_
      refine (Q_iload zm_112 (Or.inl (by decide)) D112_57 rfl).trans ?_
      refine (Q_iconst (v := 2) zm_112 (Or.inl (by decide)) D112_59 (by decide)).trans ?_
      refine (Q_irem zm_112 (Or.inl (by decide)) D112_60 (by decide)).trans ?_
      refine (Q_iadd zm_112 (Or.inl (by decide)) D112_61).trans ?_
      exact Q_ireturn zm_112 (Or.inl (by decide)) D112_62 rfl

/-! HandsLet.quiet(II)J -/
theorem D113_0 : decode prog_1_method_40_code 0 = .ok (.iload_n 1, 1) := by decide +kernel
theorem D113_1 : decode prog_1_method_40_code 1 = .ok (.ifCond .lt 18, 3) := by decide +kernel
theorem D113_4 : decode prog_1_method_40_code 4 = .ok (.iload_n 1, 1) := by decide +kernel
theorem D113_5 : decode prog_1_method_40_code 5 = .ok (.bipush 6, 2) := by decide +kernel
theorem D113_7 : decode prog_1_method_40_code 7 = .ok (.if_icmp .gt 12, 3) := by decide +kernel
theorem D113_10 : decode prog_1_method_40_code 10 = .ok (.iload_n 2, 1) := by decide +kernel
theorem D113_11 : decode prog_1_method_40_code 11 = .ok (.ifCond .lt 8, 3) := by decide +kernel
theorem D113_14 : decode prog_1_method_40_code 14 = .ok (.iload_n 2, 1) := by decide +kernel
theorem D113_15 : decode prog_1_method_40_code 15 = .ok (.iconst 1, 1) := by decide +kernel
theorem D113_16 : decode prog_1_method_40_code 16 = .ok (.if_icmp .le 7, 3) := by decide +kernel
theorem D113_19 : decode prog_1_method_40_code 19 = .ok (.ldc2_w 298, 3) := by decide +kernel
theorem D113_22 : decode prog_1_method_40_code 22 = .ok (.lreturn, 1) := by decide +kernel
theorem D113_23 : decode prog_1_method_40_code 23 = .ok (.bipush 100, 2) := by decide +kernel
theorem D113_25 : decode prog_1_method_40_code 25 = .ok (.aload_n 0, 1) := by decide +kernel
theorem D113_26 : decode prog_1_method_40_code 26 = .ok (.getfield 21, 3) := by decide +kernel
theorem D113_29 : decode prog_1_method_40_code 29 = .ok (.getfield 300, 3) := by decide +kernel
theorem D113_32 : decode prog_1_method_40_code 32 = .ok (.iconst 1, 1) := by decide +kernel
theorem D113_33 : decode prog_1_method_40_code 33 = .ok (.iaload, 1) := by decide +kernel
theorem D113_34 : decode prog_1_method_40_code 34 = .ok (.isub, 1) := by decide +kernel
theorem D113_35 : decode prog_1_method_40_code 35 = .ok (.istore_n 3, 1) := by decide +kernel
theorem D113_36 : decode prog_1_method_40_code 36 = .ok (.iload_n 2, 1) := by decide +kernel
theorem D113_37 : decode prog_1_method_40_code 37 = .ok (.ifCond .ne 7, 3) := by decide +kernel
theorem D113_40 : decode prog_1_method_40_code 40 = .ok (.iload_n 3, 1) := by decide +kernel
theorem D113_41 : decode prog_1_method_40_code 41 = .ok (.goto 5, 3) := by decide +kernel
theorem D113_44 : decode prog_1_method_40_code 44 = .ok (.bipush 100, 2) := by decide +kernel
theorem D113_46 : decode prog_1_method_40_code 46 = .ok (.istore 4, 2) := by decide +kernel
theorem D113_48 : decode prog_1_method_40_code 48 = .ok (.iload_n 3, 1) := by decide +kernel
theorem D113_49 : decode prog_1_method_40_code 49 = .ok (.bipush 100, 2) := by decide +kernel
theorem D113_51 : decode prog_1_method_40_code 51 = .ok (.invokestatic 303, 3) := by decide +kernel
theorem D113_54 : decode prog_1_method_40_code 54 = .ok (.istore 5, 2) := by decide +kernel
theorem D113_56 : decode prog_1_method_40_code 56 = .ok (.iload 5, 2) := by decide +kernel
theorem D113_58 : decode prog_1_method_40_code 58 = .ok (.ifCond .le 10, 3) := by decide +kernel
theorem D113_61 : decode prog_1_method_40_code 61 = .ok (.iload 4, 2) := by decide +kernel
theorem D113_63 : decode prog_1_method_40_code 63 = .ok (.iload 5, 2) := by decide +kernel
theorem D113_65 : decode prog_1_method_40_code 65 = .ok (.idiv, 1) := by decide +kernel
theorem D113_66 : decode prog_1_method_40_code 66 = .ok (.istore 4, 2) := by decide +kernel
theorem D113_68 : decode prog_1_method_40_code 68 = .ok (.lconst 1, 1) := by decide +kernel
theorem D113_69 : decode prog_1_method_40_code 69 = .ok (.lstore 6, 2) := by decide +kernel
theorem D113_71 : decode prog_1_method_40_code 71 = .ok (.iconst 0, 1) := by decide +kernel
theorem D113_72 : decode prog_1_method_40_code 72 = .ok (.istore 8, 2) := by decide +kernel
theorem D113_74 : decode prog_1_method_40_code 74 = .ok (.iload 8, 2) := by decide +kernel
theorem D113_76 : decode prog_1_method_40_code 76 = .ok (.iload_n 1, 1) := by decide +kernel
theorem D113_77 : decode prog_1_method_40_code 77 = .ok (.if_icmp .ge 17, 3) := by decide +kernel
theorem D113_80 : decode prog_1_method_40_code 80 = .ok (.lload 6, 2) := by decide +kernel
theorem D113_82 : decode prog_1_method_40_code 82 = .ok (.iload 4, 2) := by decide +kernel
theorem D113_84 : decode prog_1_method_40_code 84 = .ok (.i2l, 1) := by decide +kernel
theorem D113_85 : decode prog_1_method_40_code 85 = .ok (.lmul, 1) := by decide +kernel
theorem D113_86 : decode prog_1_method_40_code 86 = .ok (.lstore 6, 2) := by decide +kernel
theorem D113_88 : decode prog_1_method_40_code 88 = .ok (.iinc 8 1, 3) := by decide +kernel
theorem D113_91 : decode prog_1_method_40_code 91 = .ok (.goto (-17), 3) := by decide +kernel
theorem D113_94 : decode prog_1_method_40_code 94 = .ok (.lload 6, 2) := by decide +kernel
theorem D113_96 : decode prog_1_method_40_code 96 = .ok (.lreturn, 1) := by decide +kernel

theorem b113_0 {d : Nat} {i1 : Int32} {i2 : Int32} {ia : Nat → Nat → Int32} {la : Nat → Nat → Int64} {pl dr : Nat} {cp : Option Nat} {cw : Option Nat} {rp : Option Nat} {K : Option Value → zHP → Prop} (hpl : zIsP pl) : zWP (d + 1) 113 0 [some (.ref 0), some (.int i1), some (.int i2), none, none, none, none, none, none] [] (ia, la, zRA pl dr cp cw rp) K = (if i1 < 0 then K (some (.long (-1 : Int64))) (ia, la, zRA pl dr cp cw rp) else (if (6 : Int32) < i1 then K (some (.long (-1 : Int64))) (ia, la, zRA pl dr cp cw rp) else (if i2 < 0 then K (some (.long (-1 : Int64))) (ia, la, zRA pl dr cp cw rp) else (if i2 ≤ (1 : Int32) then (if ¬ i2 = 0 then zWM d 114 [.int ((100 : Int32) - (ia (pl + 28) 1)), .int (100 : Int32)] (ia, la, zRA pl dr cp cw rp) (zK (d + 1) 113 54 [some (.ref 0), some (.int i1), some (.int i2), some (.int ((100 : Int32) - (ia (pl + 28) 1))), some (.int (100 : Int32)), none, none, none, none] [] K) else zWM d 114 [.int ((100 : Int32) - (ia (pl + 28) 1)), .int (100 : Int32)] (ia, la, zRA pl dr cp cw rp) (zK (d + 1) 113 54 [some (.ref 0), some (.int i1), some (.int i2), some (.int ((100 : Int32) - (ia (pl + 28) 1))), some (.int ((100 : Int32) - (ia (pl + 28) 1))), none, none, none, none] [] K)) else K (some (.long (-1 : Int64))) (ia, la, zRA pl dr cp cw rp))))) := by
  refine (Q_iload_n zm_113 (Or.inl (by decide)) D113_0 rfl).trans ?_
  refine (Q_if_lt (tgt := 19) zm_113 (Or.inl (by decide)) D113_1 (by decide)).trans ?_
  refine zif_c (fun h0_ => ?_) (fun h0_ => ?_)
  · refine (Q_ldc2_w (v := -1) zm_113 (Or.inl (by decide)) D113_19 (by decide +kernel)).trans ?_
    exact Q_lreturn zm_113 (Or.inl (by decide)) D113_22 rfl
  · refine (Q_iload_n zm_113 (Or.inl (by decide)) D113_4 rfl).trans ?_
    refine (Q_bipush (v := 6) zm_113 (Or.inl (by decide)) D113_5 (by decide)).trans ?_
    refine (Q_ic_gt (tgt := 19) zm_113 (Or.inl (by decide)) D113_7 (by decide)).trans ?_
    refine zif_c (fun h1_ => ?_) (fun h1_ => ?_)
    · refine (Q_ldc2_w (v := -1) zm_113 (Or.inl (by decide)) D113_19 (by decide +kernel)).trans ?_
      exact Q_lreturn zm_113 (Or.inl (by decide)) D113_22 rfl
    · refine (Q_iload_n zm_113 (Or.inl (by decide)) D113_10 rfl).trans ?_
      refine (Q_if_lt (tgt := 19) zm_113 (Or.inl (by decide)) D113_11 (by decide)).trans ?_
      refine zif_c (fun h2_ => ?_) (fun h2_ => ?_)
      · refine (Q_ldc2_w (v := -1) zm_113 (Or.inl (by decide)) D113_19 (by decide +kernel)).trans ?_
        exact Q_lreturn zm_113 (Or.inl (by decide)) D113_22 rfl
      · refine (Q_iload_n zm_113 (Or.inl (by decide)) D113_14 rfl).trans ?_
        refine (Q_iconst (v := 1) zm_113 (Or.inl (by decide)) D113_15 (by decide)).trans ?_
        refine (Q_ic_le (tgt := 23) zm_113 (Or.inl (by decide)) D113_16 (by decide)).trans ?_
        refine zif_c (fun h3_ => ?_) (fun h3_ => ?_)
        · refine (Q_bipush (v := 100) zm_113 (Or.inl (by decide)) D113_23 (by decide)).trans ?_
          refine (Q_aload_n zm_113 (Or.inl (by decide)) D113_25 rfl).trans ?_
          refine (Q_getR (q := pl) zm_113 (Or.inl (by decide)) D113_26 zf_9_21 zs_9_1 zk_0.1 rfl).trans ?_
          refine (Q_getR (q := (pl + 28)) zm_113 (Or.inl (by decide)) D113_29 zf_9_300 zs_3_10 (zkp_0 hpl).1 (zrp_10 hpl)).trans ?_
          refine (Q_iconst (v := 1) zm_113 (Or.inl (by decide)) D113_32 (by decide)).trans ?_
          refine ((Q_iaload zm_113 (Or.inl (by decide)) D113_33 (zkp_28 hpl).1 (zkp_28 hpl).2).trans (zdrop (zin_spec (by decide)))).trans ?_
          refine (Q_isub zm_113 (Or.inl (by decide)) D113_34).trans ?_
          refine (Q_istore_n (ls' := [some (.ref 0), some (.int i1), some (.int i2), some (.int ((100 : Int32) - (ia (pl + 28) 1))), none, none, none, none, none]) zm_113 (Or.inl (by decide)) D113_35 rfl (Nat.le_of_ble_eq_true rfl) rfl).trans ?_
          refine (Q_iload_n zm_113 (Or.inl (by decide)) D113_36 rfl).trans ?_
          refine (Q_if_ne (tgt := 44) zm_113 (Or.inl (by decide)) D113_37 (by decide)).trans ?_
          refine zif_c (fun h4_ => ?_) (fun h4_ => ?_)
          · refine (Q_bipush (v := 100) zm_113 (Or.inl (by decide)) D113_44 (by decide)).trans ?_
            refine (Q_istore (ls' := [some (.ref 0), some (.int i1), some (.int i2), some (.int ((100 : Int32) - (ia (pl + 28) 1))), some (.int (100 : Int32)), none, none, none, none]) zm_113 (Or.inl (by decide)) D113_46 rfl (Nat.le_of_ble_eq_true rfl) rfl).trans ?_
            refine (Q_iload_n zm_113 (Or.inl (by decide)) D113_48 rfl).trans ?_
            refine (Q_bipush (v := 100) zm_113 (Or.inl (by decide)) D113_49 (by decide)).trans ?_
            exact Q_calls (as := [.int ((100 : Int32) - (ia (pl + 28) 1)), .int (100 : Int32)]) (rest := []) zm_113 (Or.inl (by decide)) D113_51 zc_9_303 rfl (by decide) (by simp [zcat, Value.category]) zm_114 rfl
          · refine (Q_iload_n zm_113 (Or.inl (by decide)) D113_40 rfl).trans ?_
            refine (Q_goto (tgt := 46) zm_113 (Or.inl (by decide)) D113_41 (by decide)).trans ?_
            refine (Q_istore (ls' := [some (.ref 0), some (.int i1), some (.int i2), some (.int ((100 : Int32) - (ia (pl + 28) 1))), some (.int ((100 : Int32) - (ia (pl + 28) 1))), none, none, none, none]) zm_113 (Or.inl (by decide)) D113_46 rfl (Nat.le_of_ble_eq_true rfl) rfl).trans ?_
            refine (Q_iload_n zm_113 (Or.inl (by decide)) D113_48 rfl).trans ?_
            refine (Q_bipush (v := 100) zm_113 (Or.inl (by decide)) D113_49 (by decide)).trans ?_
            exact Q_calls (as := [.int ((100 : Int32) - (ia (pl + 28) 1)), .int (100 : Int32)]) (rest := []) zm_113 (Or.inl (by decide)) D113_51 zc_9_303 rfl (by decide) (by simp [zcat, Value.category]) zm_114 rfl
        · refine (Q_ldc2_w (v := -1) zm_113 (Or.inl (by decide)) D113_19 (by decide +kernel)).trans ?_
          exact Q_lreturn zm_113 (Or.inl (by decide)) D113_22 rfl

theorem b113_54 {d : Nat} {i1 : Int32} {i2 : Int32} {i3 : Int32} {i4 : Int32} {s0 : Int32} {ia : Nat → Nat → Int32} {la : Nat → Nat → Int64} {pl dr : Nat} {cp : Option Nat} {cw : Option Nat} {rp : Option Nat} {K : Option Value → zHP → Prop}  : zWP d 113 54 [some (.ref 0), some (.int i1), some (.int i2), some (.int i3), some (.int i4), none, none, none, none] [.int s0] (ia, la, zRA pl dr cp cw rp) K = (if s0 ≤ 0 then zWP d 113 74 [some (.ref 0), some (.int i1), some (.int i2), some (.int i3), some (.int i4), some (.int s0), some (.long (1 : Int64)), none, some (.int (0 : Int32))] [] (ia, la, zRA pl dr cp cw rp) K else (¬ s0 = 0 ∧ zWP d 113 74 [some (.ref 0), some (.int i1), some (.int i2), some (.int i3), some (.int (i4 / s0)), some (.int s0), some (.long (1 : Int64)), none, some (.int (0 : Int32))] [] (ia, la, zRA pl dr cp cw rp) K)) := by
  refine (Q_istore (ls' := [some (.ref 0), some (.int i1), some (.int i2), some (.int i3), some (.int i4), some (.int s0), none, none, none]) zm_113 (Or.inl (by decide)) D113_54 rfl (Nat.le_of_ble_eq_true rfl) rfl).trans ?_
  refine (Q_iload zm_113 (Or.inl (by decide)) D113_56 rfl).trans ?_
  refine (Q_if_le (tgt := 68) zm_113 (Or.inl (by decide)) D113_58 (by decide)).trans ?_
  refine zif_c (fun h0_ => ?_) (fun h0_ => ?_)
  · refine (Q_lconst (v := 1) zm_113 (Or.inl (by decide)) D113_68 (by decide)).trans ?_
    refine (Q_lstore (ls' := [some (.ref 0), some (.int i1), some (.int i2), some (.int i3), some (.int i4), some (.int s0), some (.long (1 : Int64)), none, none]) zm_113 (Or.inl (by decide)) D113_69 rfl (Nat.le_of_ble_eq_true rfl) rfl).trans ?_
    refine (Q_iconst (v := 0) zm_113 (Or.inl (by decide)) D113_71 (by decide)).trans ?_
    refine (Q_istore (ls' := [some (.ref 0), some (.int i1), some (.int i2), some (.int i3), some (.int i4), some (.int s0), some (.long (1 : Int64)), none, some (.int (0 : Int32))]) zm_113 (Or.inl (by decide)) D113_72 rfl (Nat.le_of_ble_eq_true rfl) rfl).trans ?_
    rfl
  · refine (Q_iload zm_113 (Or.inl (by decide)) D113_61 rfl).trans ?_
    refine (Q_iload zm_113 (Or.inl (by decide)) D113_63 rfl).trans ?_
    refine (Q_idivG zm_113 (Or.inl (by decide)) D113_65).trans ?_
    refine zand_c (fun h1_ => ?_)
    refine (Q_istore (ls' := [some (.ref 0), some (.int i1), some (.int i2), some (.int i3), some (.int (i4 / s0)), some (.int s0), none, none, none]) zm_113 (Or.inl (by decide)) D113_66 rfl (Nat.le_of_ble_eq_true rfl) rfl).trans ?_
    refine (Q_lconst (v := 1) zm_113 (Or.inl (by decide)) D113_68 (by decide)).trans ?_
    refine (Q_lstore (ls' := [some (.ref 0), some (.int i1), some (.int i2), some (.int i3), some (.int (i4 / s0)), some (.int s0), some (.long (1 : Int64)), none, none]) zm_113 (Or.inl (by decide)) D113_69 rfl (Nat.le_of_ble_eq_true rfl) rfl).trans ?_
    refine (Q_iconst (v := 0) zm_113 (Or.inl (by decide)) D113_71 (by decide)).trans ?_
    refine (Q_istore (ls' := [some (.ref 0), some (.int i1), some (.int i2), some (.int i3), some (.int (i4 / s0)), some (.int s0), some (.long (1 : Int64)), none, some (.int (0 : Int32))]) zm_113 (Or.inl (by decide)) D113_72 rfl (Nat.le_of_ble_eq_true rfl) rfl).trans ?_
    rfl

theorem b113_74 {d : Nat} {i1 : Int32} {i2 : Int32} {i3 : Int32} {i4 : Int32} {i5 : Int32} {j6 : Int64} {i8 : Int32} {ia : Nat → Nat → Int32} {la : Nat → Nat → Int64} {pl dr : Nat} {cp : Option Nat} {cw : Option Nat} {rp : Option Nat} {K : Option Value → zHP → Prop}  : zWP d 113 74 [some (.ref 0), some (.int i1), some (.int i2), some (.int i3), some (.int i4), some (.int i5), some (.long j6), none, some (.int i8)] [] (ia, la, zRA pl dr cp cw rp) K = (if i1 ≤ i8 then K (some (.long j6)) (ia, la, zRA pl dr cp cw rp) else zWP d 113 74 [some (.ref 0), some (.int i1), some (.int i2), some (.int i3), some (.int i4), some (.int i5), some (.long (j6 * (i4).toInt64)), none, some (.int (i8 + (1 : Int32)))] [] (ia, la, zRA pl dr cp cw rp) K) := by
  refine (Q_iload zm_113 (Or.inl (by decide)) D113_74 rfl).trans ?_
  refine (Q_iload_n zm_113 (Or.inl (by decide)) D113_76 rfl).trans ?_
  refine (Q_ic_ge (tgt := 94) zm_113 (Or.inl (by decide)) D113_77 (by decide)).trans ?_
  refine zif_c (fun h0_ => ?_) (fun h0_ => ?_)
  · refine (Q_lload zm_113 (Or.inl (by decide)) D113_94 rfl).trans ?_
    exact Q_lreturn zm_113 (Or.inl (by decide)) D113_96 rfl
  · refine (Q_lload zm_113 (Or.inl (by decide)) D113_80 rfl).trans ?_
    refine (Q_iload zm_113 (Or.inl (by decide)) D113_82 rfl).trans ?_
    refine (Q_i2l zm_113 (Or.inl (by decide)) D113_84).trans ?_
    refine (Q_lmul zm_113 (Or.inl (by decide)) D113_85).trans ?_
    refine (Q_lstore (ls' := [some (.ref 0), some (.int i1), some (.int i2), some (.int i3), some (.int i4), some (.int i5), some (.long (j6 * (i4).toInt64)), none, some (.int i8)]) zm_113 (Or.inl (by decide)) D113_86 rfl (Nat.le_of_ble_eq_true rfl) rfl).trans ?_
    refine (Q_iinc (v := 1) (ls' := [some (.ref 0), some (.int i1), some (.int i2), some (.int i3), some (.int i4), some (.int i5), some (.long (j6 * (i4).toInt64)), none, some (.int (i8 + (1 : Int32)))]) zm_113 (Or.inl (by decide)) D113_88 rfl rfl (by decide) rfl).trans ?_
    refine (Q_goto (tgt := 74) zm_113 (Or.inl (by decide)) D113_91 (by decide)).trans ?_
    rfl

/-! HandsLet.commonDivisor(II)I -/
theorem D114_0 : decode prog_1_method_41_code 0 = .ok (.iload_n 0, 1) := by decide +kernel
theorem D114_1 : decode prog_1_method_41_code 1 = .ok (.istore_n 2, 1) := by decide +kernel
theorem D114_2 : decode prog_1_method_41_code 2 = .ok (.iload_n 1, 1) := by decide +kernel
theorem D114_3 : decode prog_1_method_41_code 3 = .ok (.istore_n 3, 1) := by decide +kernel
theorem D114_4 : decode prog_1_method_41_code 4 = .ok (.iconst 0, 1) := by decide +kernel
theorem D114_5 : decode prog_1_method_41_code 5 = .ok (.istore 4, 2) := by decide +kernel
theorem D114_7 : decode prog_1_method_41_code 7 = .ok (.iload 4, 2) := by decide +kernel
theorem D114_9 : decode prog_1_method_41_code 9 = .ok (.bipush 100, 2) := by decide +kernel
theorem D114_11 : decode prog_1_method_41_code 11 = .ok (.if_icmp .ge 23, 3) := by decide +kernel
theorem D114_14 : decode prog_1_method_41_code 14 = .ok (.iload_n 3, 1) := by decide +kernel
theorem D114_15 : decode prog_1_method_41_code 15 = .ok (.ifCond .le 19, 3) := by decide +kernel
theorem D114_18 : decode prog_1_method_41_code 18 = .ok (.iload_n 2, 1) := by decide +kernel
theorem D114_19 : decode prog_1_method_41_code 19 = .ok (.iload_n 3, 1) := by decide +kernel
theorem D114_20 : decode prog_1_method_41_code 20 = .ok (.irem, 1) := by decide +kernel
theorem D114_21 : decode prog_1_method_41_code 21 = .ok (.istore 5, 2) := by decide +kernel
theorem D114_23 : decode prog_1_method_41_code 23 = .ok (.iload_n 3, 1) := by decide +kernel
theorem D114_24 : decode prog_1_method_41_code 24 = .ok (.istore_n 2, 1) := by decide +kernel
theorem D114_25 : decode prog_1_method_41_code 25 = .ok (.iload 5, 2) := by decide +kernel
theorem D114_27 : decode prog_1_method_41_code 27 = .ok (.istore_n 3, 1) := by decide +kernel
theorem D114_28 : decode prog_1_method_41_code 28 = .ok (.iinc 4 1, 3) := by decide +kernel
theorem D114_31 : decode prog_1_method_41_code 31 = .ok (.goto (-24), 3) := by decide +kernel
theorem D114_34 : decode prog_1_method_41_code 34 = .ok (.iload_n 2, 1) := by decide +kernel
theorem D114_35 : decode prog_1_method_41_code 35 = .ok (.ireturn, 1) := by decide +kernel

theorem b114_0 {d : Nat} {i0 : Int32} {i1 : Int32} {ia : Nat → Nat → Int32} {la : Nat → Nat → Int64} {pl dr : Nat} {cp : Option Nat} {cw : Option Nat} {rp : Option Nat} {K : Option Value → zHP → Prop}  : zWP d 114 0 [some (.int i0), some (.int i1), none, none, none, none] [] (ia, la, zRA pl dr cp cw rp) K = zWP d 114 7 [some (.int i0), some (.int i1), some (.int i0), some (.int i1), some (.int (0 : Int32)), none] [] (ia, la, zRA pl dr cp cw rp) K := by
  refine (Q_iload_n zm_114 (Or.inl (by decide)) D114_0 rfl).trans ?_
  refine (Q_istore_n (ls' := [some (.int i0), some (.int i1), some (.int i0), none, none, none]) zm_114 (Or.inl (by decide)) D114_1 rfl (Nat.le_of_ble_eq_true rfl) rfl).trans ?_
  refine (Q_iload_n zm_114 (Or.inl (by decide)) D114_2 rfl).trans ?_
  refine (Q_istore_n (ls' := [some (.int i0), some (.int i1), some (.int i0), some (.int i1), none, none]) zm_114 (Or.inl (by decide)) D114_3 rfl (Nat.le_of_ble_eq_true rfl) rfl).trans ?_
  refine (Q_iconst (v := 0) zm_114 (Or.inl (by decide)) D114_4 (by decide)).trans ?_
  refine (Q_istore (ls' := [some (.int i0), some (.int i1), some (.int i0), some (.int i1), some (.int (0 : Int32)), none]) zm_114 (Or.inl (by decide)) D114_5 rfl (Nat.le_of_ble_eq_true rfl) rfl).trans ?_
  rfl

theorem b114_7 {d : Nat} {i0 : Int32} {i1 : Int32} {i2 : Int32} {i3 : Int32} {i4 : Int32} {a5 : Option Value} {ia : Nat → Nat → Int32} {la : Nat → Nat → Int64} {pl dr : Nat} {cp : Option Nat} {cw : Option Nat} {rp : Option Nat} {K : Option Value → zHP → Prop}  : zWP d 114 7 [some (.int i0), some (.int i1), some (.int i2), some (.int i3), some (.int i4), a5] [] (ia, la, zRA pl dr cp cw rp) K = (if (100 : Int32) ≤ i4 then K (some (.int i2)) (ia, la, zRA pl dr cp cw rp) else (if i3 ≤ 0 then K (some (.int i2)) (ia, la, zRA pl dr cp cw rp) else (¬ i3 = 0 ∧ zWP d 114 7 [some (.int i0), some (.int i1), some (.int i3), some (.int (i2 - i2 / i3 * i3)), some (.int (i4 + (1 : Int32))), some (.int (i2 - i2 / i3 * i3))] [] (ia, la, zRA pl dr cp cw rp) K))) := by
  refine (Q_iload zm_114 (Or.inl (by decide)) D114_7 rfl).trans ?_
  refine (Q_bipush (v := 100) zm_114 (Or.inl (by decide)) D114_9 (by decide)).trans ?_
  refine (Q_ic_ge (tgt := 34) zm_114 (Or.inl (by decide)) D114_11 (by decide)).trans ?_
  refine zif_c (fun h0_ => ?_) (fun h0_ => ?_)
  · refine (Q_iload_n zm_114 (Or.inl (by decide)) D114_34 rfl).trans ?_
    exact Q_ireturn zm_114 (Or.inl (by decide)) D114_35 rfl
  · refine (Q_iload_n zm_114 (Or.inl (by decide)) D114_14 rfl).trans ?_
    refine (Q_if_le (tgt := 34) zm_114 (Or.inl (by decide)) D114_15 (by decide)).trans ?_
    refine zif_c (fun h1_ => ?_) (fun h1_ => ?_)
    · refine (Q_iload_n zm_114 (Or.inl (by decide)) D114_34 rfl).trans ?_
      exact Q_ireturn zm_114 (Or.inl (by decide)) D114_35 rfl
    · refine (Q_iload_n zm_114 (Or.inl (by decide)) D114_18 rfl).trans ?_
      refine (Q_iload_n zm_114 (Or.inl (by decide)) D114_19 rfl).trans ?_
      refine (Q_iremG zm_114 (Or.inl (by decide)) D114_20).trans ?_
      refine zand_c (fun h2_ => ?_)
      refine (Q_istore (ls' := [some (.int i0), some (.int i1), some (.int i2), some (.int i3), some (.int i4), some (.int (i2 - i2 / i3 * i3))]) zm_114 (Or.inl (by decide)) D114_21 rfl (Nat.le_of_ble_eq_true rfl) rfl).trans ?_
      refine (Q_iload_n zm_114 (Or.inl (by decide)) D114_23 rfl).trans ?_
      refine (Q_istore_n (ls' := [some (.int i0), some (.int i1), some (.int i3), some (.int i3), some (.int i4), some (.int (i2 - i2 / i3 * i3))]) zm_114 (Or.inl (by decide)) D114_24 rfl (Nat.le_of_ble_eq_true rfl) rfl).trans ?_
      refine (Q_iload zm_114 (Or.inl (by decide)) D114_25 rfl).trans ?_
      refine (Q_istore_n (ls' := [some (.int i0), some (.int i1), some (.int i3), some (.int (i2 - i2 / i3 * i3)), some (.int i4), some (.int (i2 - i2 / i3 * i3))]) zm_114 (Or.inl (by decide)) D114_27 rfl (Nat.le_of_ble_eq_true rfl) rfl).trans ?_
      refine (Q_iinc (v := 1) (ls' := [some (.int i0), some (.int i1), some (.int i3), some (.int (i2 - i2 / i3 * i3)), some (.int (i4 + (1 : Int32))), some (.int (i2 - i2 / i3 * i3))]) zm_114 (Or.inl (by decide)) D114_28 rfl rfl (by decide) rfl).trans ?_
      refine (Q_goto (tgt := 7) zm_114 (Or.inl (by decide)) D114_31 (by decide)).trans ?_
      rfl

/-! HandsLet.chance(III)I -/
theorem D115_0 : decode prog_1_method_42_code 0 = .ok (.iload_n 1, 1) := by decide +kernel
theorem D115_1 : decode prog_1_method_42_code 1 = .ok (.ifCond .lt 24, 3) := by decide +kernel
theorem D115_4 : decode prog_1_method_42_code 4 = .ok (.iload_n 2, 1) := by decide +kernel
theorem D115_5 : decode prog_1_method_42_code 5 = .ok (.iconst 1, 1) := by decide +kernel
theorem D115_6 : decode prog_1_method_42_code 6 = .ok (.if_icmp .lt 19, 3) := by decide +kernel
theorem D115_9 : decode prog_1_method_42_code 9 = .ok (.iload_n 2, 1) := by decide +kernel
theorem D115_10 : decode prog_1_method_42_code 10 = .ok (.bipush 99, 2) := by decide +kernel
theorem D115_12 : decode prog_1_method_42_code 12 = .ok (.if_icmp .gt 13, 3) := by decide +kernel
theorem D115_15 : decode prog_1_method_42_code 15 = .ok (.iload_n 3, 1) := by decide +kernel
theorem D115_16 : decode prog_1_method_42_code 16 = .ok (.ifCond .lt 9, 3) := by decide +kernel
theorem D115_19 : decode prog_1_method_42_code 19 = .ok (.iload_n 3, 1) := by decide +kernel
theorem D115_20 : decode prog_1_method_42_code 20 = .ok (.bipush 12, 2) := by decide +kernel
theorem D115_22 : decode prog_1_method_42_code 22 = .ok (.if_icmp .le 5, 3) := by decide +kernel
theorem D115_25 : decode prog_1_method_42_code 25 = .ok (.iconst (-1), 1) := by decide +kernel
theorem D115_26 : decode prog_1_method_42_code 26 = .ok (.ireturn, 1) := by decide +kernel
theorem D115_27 : decode prog_1_method_42_code 27 = .ok (.iconst 0, 1) := by decide +kernel
theorem D115_28 : decode prog_1_method_42_code 28 = .ok (.istore 4, 2) := by decide +kernel
theorem D115_30 : decode prog_1_method_42_code 30 = .ok (.iload_n 1, 1) := by decide +kernel
theorem D115_31 : decode prog_1_method_42_code 31 = .ok (.i2l, 1) := by decide +kernel
theorem D115_32 : decode prog_1_method_42_code 32 = .ok (.lstore 5, 2) := by decide +kernel
theorem D115_34 : decode prog_1_method_42_code 34 = .ok (.iconst 0, 1) := by decide +kernel
theorem D115_35 : decode prog_1_method_42_code 35 = .ok (.istore 7, 2) := by decide +kernel
theorem D115_37 : decode prog_1_method_42_code 37 = .ok (.iload 7, 2) := by decide +kernel
theorem D115_39 : decode prog_1_method_42_code 39 = .ok (.bipush 10, 2) := by decide +kernel
theorem D115_41 : decode prog_1_method_42_code 41 = .ok (.if_icmp .ge 62, 3) := by decide +kernel
theorem D115_44 : decode prog_1_method_42_code 44 = .ok (.aload_n 0, 1) := by decide +kernel
theorem D115_45 : decode prog_1_method_42_code 45 = .ok (.iconst 0, 1) := by decide +kernel
theorem D115_46 : decode prog_1_method_42_code 46 = .ok (.invokevirtual 234, 3) := by decide +kernel
theorem D115_49 : decode prog_1_method_42_code 49 = .ok (.aload_n 0, 1) := by decide +kernel
theorem D115_50 : decode prog_1_method_42_code 50 = .ok (.getfield 38, 3) := by decide +kernel
theorem D115_53 : decode prog_1_method_42_code 53 = .ok (.lload 5, 2) := by decide +kernel
theorem D115_55 : decode prog_1_method_42_code 55 = .ok (.putfield 306, 3) := by decide +kernel
theorem D115_58 : decode prog_1_method_42_code 58 = .ok (.aload_n 0, 1) := by decide +kernel
theorem D115_59 : decode prog_1_method_42_code 59 = .ok (.getfield 44, 3) := by decide +kernel
theorem D115_62 : decode prog_1_method_42_code 62 = .ok (.iload_n 2, 1) := by decide +kernel
theorem D115_63 : decode prog_1_method_42_code 63 = .ok (.invokevirtual 227, 3) := by decide +kernel
theorem D115_66 : decode prog_1_method_42_code 66 = .ok (.aload_n 0, 1) := by decide +kernel
theorem D115_67 : decode prog_1_method_42_code 67 = .ok (.getfield 38, 3) := by decide +kernel
theorem D115_70 : decode prog_1_method_42_code 70 = .ok (.getfield 306, 3) := by decide +kernel
theorem D115_73 : decode prog_1_method_42_code 73 = .ok (.lstore 5, 2) := by decide +kernel
theorem D115_75 : decode prog_1_method_42_code 75 = .ok (.aload_n 0, 1) := by decide +kernel
theorem D115_76 : decode prog_1_method_42_code 76 = .ok (.getfield 38, 3) := by decide +kernel
theorem D115_79 : decode prog_1_method_42_code 79 = .ok (.getfield 243, 3) := by decide +kernel
theorem D115_82 : decode prog_1_method_42_code 82 = .ok (.aload_n 0, 1) := by decide +kernel
theorem D115_83 : decode prog_1_method_42_code 83 = .ok (.getfield 31, 3) := by decide +kernel
theorem D115_86 : decode prog_1_method_42_code 86 = .ok (.getfield 243, 3) := by decide +kernel
theorem D115_89 : decode prog_1_method_42_code 89 = .ok (.isub, 1) := by decide +kernel
theorem D115_90 : decode prog_1_method_42_code 90 = .ok (.iload_n 3, 1) := by decide +kernel
theorem D115_91 : decode prog_1_method_42_code 91 = .ok (.if_icmp .lt 6, 3) := by decide +kernel
theorem D115_94 : decode prog_1_method_42_code 94 = .ok (.iinc 4 1, 3) := by decide +kernel
theorem D115_97 : decode prog_1_method_42_code 97 = .ok (.iinc 7 1, 3) := by decide +kernel
theorem D115_100 : decode prog_1_method_42_code 100 = .ok (.goto (-63), 3) := by decide +kernel
theorem D115_103 : decode prog_1_method_42_code 103 = .ok (.iload 4, 2) := by decide +kernel
theorem D115_105 : decode prog_1_method_42_code 105 = .ok (.ireturn, 1) := by decide +kernel

theorem b115_0 {d : Nat} {i1 : Int32} {i2 : Int32} {i3 : Int32} {ia : Nat → Nat → Int32} {la : Nat → Nat → Int64} {pl dr : Nat} {cp : Option Nat} {cw : Option Nat} {rp : Option Nat} {K : Option Value → zHP → Prop}  : zWP d 115 0 [some (.ref 0), some (.int i1), some (.int i2), some (.int i3), none, none, none, none] [] (ia, la, zRA pl dr cp cw rp) K = (if i1 < 0 then K (some (.int (-1 : Int32))) (ia, la, zRA pl dr cp cw rp) else (if i2 < (1 : Int32) then K (some (.int (-1 : Int32))) (ia, la, zRA pl dr cp cw rp) else (if (99 : Int32) < i2 then K (some (.int (-1 : Int32))) (ia, la, zRA pl dr cp cw rp) else (if i3 < 0 then K (some (.int (-1 : Int32))) (ia, la, zRA pl dr cp cw rp) else (if i3 ≤ (12 : Int32) then zWP d 115 37 [some (.ref 0), some (.int i1), some (.int i2), some (.int i3), some (.int (0 : Int32)), some (.long (i1).toInt64), none, some (.int (0 : Int32))] [] (ia, la, zRA pl dr cp cw rp) K else K (some (.int (-1 : Int32))) (ia, la, zRA pl dr cp cw rp)))))) := by
  refine (Q_iload_n zm_115 (Or.inl (by decide)) D115_0 rfl).trans ?_
  refine (Q_if_lt (tgt := 25) zm_115 (Or.inl (by decide)) D115_1 (by decide)).trans ?_
  refine zif_c (fun h0_ => ?_) (fun h0_ => ?_)
  · refine (Q_iconst (v := -1) zm_115 (Or.inl (by decide)) D115_25 (by decide)).trans ?_
    exact Q_ireturn zm_115 (Or.inl (by decide)) D115_26 rfl
  · refine (Q_iload_n zm_115 (Or.inl (by decide)) D115_4 rfl).trans ?_
    refine (Q_iconst (v := 1) zm_115 (Or.inl (by decide)) D115_5 (by decide)).trans ?_
    refine (Q_ic_lt (tgt := 25) zm_115 (Or.inl (by decide)) D115_6 (by decide)).trans ?_
    refine zif_c (fun h1_ => ?_) (fun h1_ => ?_)
    · refine (Q_iconst (v := -1) zm_115 (Or.inl (by decide)) D115_25 (by decide)).trans ?_
      exact Q_ireturn zm_115 (Or.inl (by decide)) D115_26 rfl
    · refine (Q_iload_n zm_115 (Or.inl (by decide)) D115_9 rfl).trans ?_
      refine (Q_bipush (v := 99) zm_115 (Or.inl (by decide)) D115_10 (by decide)).trans ?_
      refine (Q_ic_gt (tgt := 25) zm_115 (Or.inl (by decide)) D115_12 (by decide)).trans ?_
      refine zif_c (fun h2_ => ?_) (fun h2_ => ?_)
      · refine (Q_iconst (v := -1) zm_115 (Or.inl (by decide)) D115_25 (by decide)).trans ?_
        exact Q_ireturn zm_115 (Or.inl (by decide)) D115_26 rfl
      · refine (Q_iload_n zm_115 (Or.inl (by decide)) D115_15 rfl).trans ?_
        refine (Q_if_lt (tgt := 25) zm_115 (Or.inl (by decide)) D115_16 (by decide)).trans ?_
        refine zif_c (fun h3_ => ?_) (fun h3_ => ?_)
        · refine (Q_iconst (v := -1) zm_115 (Or.inl (by decide)) D115_25 (by decide)).trans ?_
          exact Q_ireturn zm_115 (Or.inl (by decide)) D115_26 rfl
        · refine (Q_iload_n zm_115 (Or.inl (by decide)) D115_19 rfl).trans ?_
          refine (Q_bipush (v := 12) zm_115 (Or.inl (by decide)) D115_20 (by decide)).trans ?_
          refine (Q_ic_le (tgt := 27) zm_115 (Or.inl (by decide)) D115_22 (by decide)).trans ?_
          refine zif_c (fun h4_ => ?_) (fun h4_ => ?_)
          · refine (Q_iconst (v := 0) zm_115 (Or.inl (by decide)) D115_27 (by decide)).trans ?_
            refine (Q_istore (ls' := [some (.ref 0), some (.int i1), some (.int i2), some (.int i3), some (.int (0 : Int32)), none, none, none]) zm_115 (Or.inl (by decide)) D115_28 rfl (Nat.le_of_ble_eq_true rfl) rfl).trans ?_
            refine (Q_iload_n zm_115 (Or.inl (by decide)) D115_30 rfl).trans ?_
            refine (Q_i2l zm_115 (Or.inl (by decide)) D115_31).trans ?_
            refine (Q_lstore (ls' := [some (.ref 0), some (.int i1), some (.int i2), some (.int i3), some (.int (0 : Int32)), some (.long (i1).toInt64), none, none]) zm_115 (Or.inl (by decide)) D115_32 rfl (Nat.le_of_ble_eq_true rfl) rfl).trans ?_
            refine (Q_iconst (v := 0) zm_115 (Or.inl (by decide)) D115_34 (by decide)).trans ?_
            refine (Q_istore (ls' := [some (.ref 0), some (.int i1), some (.int i2), some (.int i3), some (.int (0 : Int32)), some (.long (i1).toInt64), none, some (.int (0 : Int32))]) zm_115 (Or.inl (by decide)) D115_35 rfl (Nat.le_of_ble_eq_true rfl) rfl).trans ?_
            rfl
          · refine (Q_iconst (v := -1) zm_115 (Or.inl (by decide)) D115_25 (by decide)).trans ?_
            exact Q_ireturn zm_115 (Or.inl (by decide)) D115_26 rfl

theorem b115_37 {d : Nat} {i1 : Int32} {i2 : Int32} {i3 : Int32} {i4 : Int32} {j5 : Int64} {i7 : Int32} {ia : Nat → Nat → Int32} {la : Nat → Nat → Int64} {pl dr : Nat} {cp : Option Nat} {cw : Option Nat} {rp : Option Nat} {K : Option Value → zHP → Prop}  : zWP (d + 1) 115 37 [some (.ref 0), some (.int i1), some (.int i2), some (.int i3), some (.int i4), some (.long j5), none, some (.int i7)] [] (ia, la, zRA pl dr cp cw rp) K = (if (10 : Int32) ≤ i7 then K (some (.int i4)) (ia, la, zRA pl dr cp cw rp) else zWM d 92 [.ref 0, .int (0 : Int32)] (ia, la, zRA pl dr cp cw rp) (zK (d + 1) 115 49 [some (.ref 0), some (.int i1), some (.int i2), some (.int i3), some (.int i4), some (.long j5), none, some (.int i7)] [] K)) := by
  refine (Q_iload zm_115 (Or.inl (by decide)) D115_37 rfl).trans ?_
  refine (Q_bipush (v := 10) zm_115 (Or.inl (by decide)) D115_39 (by decide)).trans ?_
  refine (Q_ic_ge (tgt := 103) zm_115 (Or.inl (by decide)) D115_41 (by decide)).trans ?_
  refine zif_c (fun h0_ => ?_) (fun h0_ => ?_)
  · refine (Q_iload zm_115 (Or.inl (by decide)) D115_103 rfl).trans ?_
    exact Q_ireturn zm_115 (Or.inl (by decide)) D115_105 rfl
  · refine (Q_aload_n zm_115 (Or.inl (by decide)) D115_44 rfl).trans ?_
    refine (Q_iconst (v := 0) zm_115 (Or.inl (by decide)) D115_45 (by decide)).trans ?_
    exact Q_callv (as := [.int (0 : Int32)]) (b := 0) (rest := []) zm_115 (Or.inl (by decide)) D115_46 zc_9_234 rfl zk_0.1 (by decide) (by decide +kernel) (by decide) (by simp [zcat, Value.category]) zm_92 rfl

theorem b115_49 {d : Nat} {i1 : Int32} {i2 : Int32} {i3 : Int32} {i4 : Int32} {j5 : Int64} {i7 : Int32} {ia : Nat → Nat → Int32} {la : Nat → Nat → Int64} {pl dr : Nat} {cp : Option Nat} {cw : Option Nat} {rp : Option Nat} {K : Option Value → zHP → Prop}  : zWP (d + 1) 115 49 [some (.ref 0), some (.int i1), some (.int i2), some (.int i3), some (.int i4), some (.long j5), none, some (.int i7)] [] (ia, la, zRA pl dr cp cw rp) K = zWM d 1 [.ref 102, .int i2] (ia, (zu la 92 1 j5), zRA pl dr cp cw rp) (zK (d + 1) 115 66 [some (.ref 0), some (.int i1), some (.int i2), some (.int i3), some (.int i4), some (.long j5), none, some (.int i7)] [] K) := by
  refine (Q_aload_n zm_115 (Or.inl (by decide)) D115_49 rfl).trans ?_
  refine (Q_getR (q := 92) zm_115 (Or.inl (by decide)) D115_50 zf_9_38 zs_9_5 zk_0.1 rfl).trans ?_
  refine (Q_lload zm_115 (Or.inl (by decide)) D115_53 rfl).trans ?_
  refine (Q_putJ zm_115 (Or.inl (by decide)) D115_55 zf_9_306 zs_8_1 rfl zk_92.1).trans ?_
  refine (Q_aload_n zm_115 (Or.inl (by decide)) D115_58 rfl).trans ?_
  refine (Q_getR (q := 102) zm_115 (Or.inl (by decide)) D115_59 zf_9_44 zs_9_7 zk_0.1 rfl).trans ?_
  refine (Q_iload_n zm_115 (Or.inl (by decide)) D115_62 rfl).trans ?_
  exact Q_callv (as := [.int i2]) (b := 102) (rest := []) zm_115 (Or.inl (by decide)) D115_63 zc_9_227 rfl zk_102.1 (by decide) (by decide +kernel) (by decide) (by simp [zcat, Value.category]) zm_1 rfl

theorem b115_66 {d : Nat} {i1 : Int32} {i2 : Int32} {i3 : Int32} {i4 : Int32} {j5 : Int64} {i7 : Int32} {ia : Nat → Nat → Int32} {la : Nat → Nat → Int64} {pl dr : Nat} {cp : Option Nat} {cw : Option Nat} {rp : Option Nat} {K : Option Value → zHP → Prop}  : zWP d 115 66 [some (.ref 0), some (.int i1), some (.int i2), some (.int i3), some (.int i4), some (.long j5), none, some (.int i7)] [] (ia, la, zRA pl dr cp cw rp) K = (if ((ia 92 13) - (ia 72 13)) < i3 then zWP d 115 37 [some (.ref 0), some (.int i1), some (.int i2), some (.int i3), some (.int i4), some (.long (la 92 1)), none, some (.int (i7 + (1 : Int32)))] [] (ia, la, zRA pl dr cp cw rp) K else zWP d 115 37 [some (.ref 0), some (.int i1), some (.int i2), some (.int i3), some (.int (i4 + (1 : Int32))), some (.long (la 92 1)), none, some (.int (i7 + (1 : Int32)))] [] (ia, la, zRA pl dr cp cw rp) K) := by
  refine (Q_aload_n zm_115 (Or.inl (by decide)) D115_66 rfl).trans ?_
  refine (Q_getR (q := 92) zm_115 (Or.inl (by decide)) D115_67 zf_9_38 zs_9_5 zk_0.1 rfl).trans ?_
  refine (Q_getJ zm_115 (Or.inl (by decide)) D115_70 zf_9_306 zs_8_1 zk_92.1).trans ?_
  refine (Q_lstore (ls' := [some (.ref 0), some (.int i1), some (.int i2), some (.int i3), some (.int i4), some (.long (la 92 1)), none, some (.int i7)]) zm_115 (Or.inl (by decide)) D115_73 rfl (Nat.le_of_ble_eq_true rfl) rfl).trans ?_
  refine (Q_aload_n zm_115 (Or.inl (by decide)) D115_75 rfl).trans ?_
  refine (Q_getR (q := 92) zm_115 (Or.inl (by decide)) D115_76 zf_9_38 zs_9_5 zk_0.1 rfl).trans ?_
  refine (Q_getI zm_115 (Or.inl (by decide)) D115_79 zf_9_243 (Or.inl zs_8_13) zk_92.1).trans ?_
  refine (Q_aload_n zm_115 (Or.inl (by decide)) D115_82 rfl).trans ?_
  refine (Q_getR (q := 72) zm_115 (Or.inl (by decide)) D115_83 zf_9_31 zs_9_3 zk_0.1 rfl).trans ?_
  refine (Q_getI zm_115 (Or.inl (by decide)) D115_86 zf_9_243 (Or.inl zs_8_13) zk_72.1).trans ?_
  refine (Q_isub zm_115 (Or.inl (by decide)) D115_89).trans ?_
  refine (Q_iload_n zm_115 (Or.inl (by decide)) D115_90 rfl).trans ?_
  refine (Q_ic_lt (tgt := 97) zm_115 (Or.inl (by decide)) D115_91 (by decide)).trans ?_
  refine zif_c (fun h0_ => ?_) (fun h0_ => ?_)
  · refine (Q_iinc (v := 1) (ls' := [some (.ref 0), some (.int i1), some (.int i2), some (.int i3), some (.int i4), some (.long (la 92 1)), none, some (.int (i7 + (1 : Int32)))]) zm_115 (Or.inl (by decide)) D115_97 rfl rfl (by decide) rfl).trans ?_
    refine (Q_goto (tgt := 37) zm_115 (Or.inl (by decide)) D115_100 (by decide)).trans ?_
    rfl
  · refine (Q_iinc (v := 1) (ls' := [some (.ref 0), some (.int i1), some (.int i2), some (.int i3), some (.int (i4 + (1 : Int32))), some (.long (la 92 1)), none, some (.int i7)]) zm_115 (Or.inl (by decide)) D115_94 rfl rfl (by decide) rfl).trans ?_
    refine (Q_iinc (v := 1) (ls' := [some (.ref 0), some (.int i1), some (.int i2), some (.int i3), some (.int (i4 + (1 : Int32))), some (.long (la 92 1)), none, some (.int (i7 + (1 : Int32)))]) zm_115 (Or.inl (by decide)) D115_97 rfl rfl (by decide) rfl).trans ?_
    refine (Q_goto (tgt := 37) zm_115 (Or.inl (by decide)) D115_100 (by decide)).trans ?_
    rfl

/-! HandsLet.tried(III)I -/
theorem D116_0 : decode prog_1_method_43_code 0 = .ok (.iload_n 1, 1) := by decide +kernel
theorem D116_1 : decode prog_1_method_43_code 1 = .ok (.ifCond .lt 19, 3) := by decide +kernel
theorem D116_4 : decode prog_1_method_43_code 4 = .ok (.iload_n 1, 1) := by decide +kernel
theorem D116_5 : decode prog_1_method_43_code 5 = .ok (.iconst 4, 1) := by decide +kernel
theorem D116_6 : decode prog_1_method_43_code 6 = .ok (.if_icmp .gt 14, 3) := by decide +kernel
theorem D116_9 : decode prog_1_method_43_code 9 = .ok (.iload_n 3, 1) := by decide +kernel
theorem D116_10 : decode prog_1_method_43_code 10 = .ok (.ifCond .lt 10, 3) := by decide +kernel
theorem D116_13 : decode prog_1_method_43_code 13 = .ok (.iload_n 3, 1) := by decide +kernel
theorem D116_14 : decode prog_1_method_43_code 14 = .ok (.sipush 200, 3) := by decide +kernel
theorem D116_17 : decode prog_1_method_43_code 17 = .ok (.if_icmp .le 5, 3) := by decide +kernel
theorem D116_20 : decode prog_1_method_43_code 20 = .ok (.iconst (-1), 1) := by decide +kernel
theorem D116_21 : decode prog_1_method_43_code 21 = .ok (.ireturn, 1) := by decide +kernel
theorem D116_22 : decode prog_1_method_43_code 22 = .ok (.iload_n 1, 1) := by decide +kernel
theorem D116_23 : decode prog_1_method_43_code 23 = .ok (.iconst 2, 1) := by decide +kernel
theorem D116_24 : decode prog_1_method_43_code 24 = .ok (.if_icmp .ne 14, 3) := by decide +kernel
theorem D116_27 : decode prog_1_method_43_code 27 = .ok (.aload_n 0, 1) := by decide +kernel
theorem D116_28 : decode prog_1_method_43_code 28 = .ok (.iload_n 2, 1) := by decide +kernel
theorem D116_29 : decode prog_1_method_43_code 29 = .ok (.invokevirtual 122, 3) := by decide +kernel
theorem D116_32 : decode prog_1_method_43_code 32 = .ok (.ifCond .ne 12, 3) := by decide +kernel
theorem D116_35 : decode prog_1_method_43_code 35 = .ok (.goto 7, 3) := by decide +kernel
theorem D116_38 : decode prog_1_method_43_code 38 = .ok (.iload_n 2, 1) := by decide +kernel
theorem D116_39 : decode prog_1_method_43_code 39 = .ok (.ifCond .eq 5, 3) := by decide +kernel
theorem D116_42 : decode prog_1_method_43_code 42 = .ok (.iconst (-1), 1) := by decide +kernel
theorem D116_43 : decode prog_1_method_43_code 43 = .ok (.ireturn, 1) := by decide +kernel
theorem D116_44 : decode prog_1_method_43_code 44 = .ok (.aload_n 0, 1) := by decide +kernel
theorem D116_45 : decode prog_1_method_43_code 45 = .ok (.iload_n 1, 1) := by decide +kernel
theorem D116_46 : decode prog_1_method_43_code 46 = .ok (.ifCond .ne 7, 3) := by decide +kernel
theorem D116_49 : decode prog_1_method_43_code 49 = .ok (.iconst 2, 1) := by decide +kernel
theorem D116_50 : decode prog_1_method_43_code 50 = .ok (.goto 13, 3) := by decide +kernel
theorem D116_53 : decode prog_1_method_43_code 53 = .ok (.iload_n 1, 1) := by decide +kernel
theorem D116_54 : decode prog_1_method_43_code 54 = .ok (.iconst 1, 1) := by decide +kernel
theorem D116_55 : decode prog_1_method_43_code 55 = .ok (.if_icmp .ne 7, 3) := by decide +kernel
theorem D116_58 : decode prog_1_method_43_code 58 = .ok (.iconst 3, 1) := by decide +kernel
theorem D116_59 : decode prog_1_method_43_code 59 = .ok (.goto 4, 3) := by decide +kernel
theorem D116_62 : decode prog_1_method_43_code 62 = .ok (.iconst 1, 1) := by decide +kernel
theorem D116_63 : decode prog_1_method_43_code 63 = .ok (.invokevirtual 234, 3) := by decide +kernel
theorem D116_66 : decode prog_1_method_43_code 66 = .ok (.aload_n 0, 1) := by decide +kernel
theorem D116_67 : decode prog_1_method_43_code 67 = .ok (.getfield 44, 3) := by decide +kernel
theorem D116_70 : decode prog_1_method_43_code 70 = .ok (.iload_n 1, 1) := by decide +kernel
theorem D116_71 : decode prog_1_method_43_code 71 = .ok (.iconst 2, 1) := by decide +kernel
theorem D116_72 : decode prog_1_method_43_code 72 = .ok (.if_icmp .ne 7, 3) := by decide +kernel
theorem D116_75 : decode prog_1_method_43_code 75 = .ok (.iload_n 2, 1) := by decide +kernel
theorem D116_76 : decode prog_1_method_43_code 76 = .ok (.goto 4, 3) := by decide +kernel
theorem D116_79 : decode prog_1_method_43_code 79 = .ok (.iconst (-1), 1) := by decide +kernel
theorem D116_80 : decode prog_1_method_43_code 80 = .ok (.putfield 310, 3) := by decide +kernel
theorem D116_83 : decode prog_1_method_43_code 83 = .ok (.aload_n 0, 1) := by decide +kernel
theorem D116_84 : decode prog_1_method_43_code 84 = .ok (.getfield 44, 3) := by decide +kernel
theorem D116_87 : decode prog_1_method_43_code 87 = .ok (.iload_n 1, 1) := by decide +kernel
theorem D116_88 : decode prog_1_method_43_code 88 = .ok (.iconst 3, 1) := by decide +kernel
theorem D116_89 : decode prog_1_method_43_code 89 = .ok (.if_icmp .ne 7, 3) := by decide +kernel
theorem D116_92 : decode prog_1_method_43_code 92 = .ok (.iconst 1, 1) := by decide +kernel
theorem D116_93 : decode prog_1_method_43_code 93 = .ok (.goto 4, 3) := by decide +kernel
theorem D116_96 : decode prog_1_method_43_code 96 = .ok (.iconst 0, 1) := by decide +kernel
theorem D116_97 : decode prog_1_method_43_code 97 = .ok (.putfield 313, 3) := by decide +kernel
theorem D116_100 : decode prog_1_method_43_code 100 = .ok (.aload_n 0, 1) := by decide +kernel
theorem D116_101 : decode prog_1_method_43_code 101 = .ok (.getfield 44, 3) := by decide +kernel
theorem D116_104 : decode prog_1_method_43_code 104 = .ok (.iload_n 1, 1) := by decide +kernel
theorem D116_105 : decode prog_1_method_43_code 105 = .ok (.iconst 4, 1) := by decide +kernel
theorem D116_106 : decode prog_1_method_43_code 106 = .ok (.if_icmp .ne 7, 3) := by decide +kernel
theorem D116_109 : decode prog_1_method_43_code 109 = .ok (.iconst 1, 1) := by decide +kernel
theorem D116_110 : decode prog_1_method_43_code 110 = .ok (.goto 4, 3) := by decide +kernel
theorem D116_113 : decode prog_1_method_43_code 113 = .ok (.iconst 0, 1) := by decide +kernel
theorem D116_114 : decode prog_1_method_43_code 114 = .ok (.putfield 316, 3) := by decide +kernel
theorem D116_117 : decode prog_1_method_43_code 117 = .ok (.aload_n 0, 1) := by decide +kernel
theorem D116_118 : decode prog_1_method_43_code 118 = .ok (.getfield 44, 3) := by decide +kernel
theorem D116_121 : decode prog_1_method_43_code 121 = .ok (.iload_n 3, 1) := by decide +kernel
theorem D116_122 : decode prog_1_method_43_code 122 = .ok (.invokevirtual 227, 3) := by decide +kernel
theorem D116_125 : decode prog_1_method_43_code 125 = .ok (.aload_n 0, 1) := by decide +kernel
theorem D116_126 : decode prog_1_method_43_code 126 = .ok (.getfield 38, 3) := by decide +kernel
theorem D116_129 : decode prog_1_method_43_code 129 = .ok (.invokevirtual 319, 3) := by decide +kernel
theorem D116_132 : decode prog_1_method_43_code 132 = .ok (.ireturn, 1) := by decide +kernel

theorem b116_0 {d : Nat} {i1 : Int32} {i2 : Int32} {i3 : Int32} {ia : Nat → Nat → Int32} {la : Nat → Nat → Int64} {pl dr : Nat} {cp : Option Nat} {cw : Option Nat} {rp : Option Nat} {K : Option Value → zHP → Prop}  : zWP (d + 1) 116 0 [some (.ref 0), some (.int i1), some (.int i2), some (.int i3)] [] (ia, la, zRA pl dr cp cw rp) K = (if i1 < 0 then K (some (.int (-1 : Int32))) (ia, la, zRA pl dr cp cw rp) else (if (4 : Int32) < i1 then K (some (.int (-1 : Int32))) (ia, la, zRA pl dr cp cw rp) else (if i3 < 0 then K (some (.int (-1 : Int32))) (ia, la, zRA pl dr cp cw rp) else (if i3 ≤ (200 : Int32) then (if ¬ i1 = (2 : Int32) then (if i2 = 0 then zWP (d + 1) 116 44 [some (.ref 0), some (.int i1), some (.int i2), some (.int i3)] [] (ia, la, zRA pl dr cp cw rp) K else K (some (.int (-1 : Int32))) (ia, la, zRA pl dr cp cw rp)) else zWM d 80 [.ref 0, .int i2] (ia, la, zRA pl dr cp cw rp) (zK (d + 1) 116 32 [some (.ref 0), some (.int i1), some (.int i2), some (.int i3)] [] K)) else K (some (.int (-1 : Int32))) (ia, la, zRA pl dr cp cw rp))))) := by
  refine (Q_iload_n zm_116 (Or.inl (by decide)) D116_0 rfl).trans ?_
  refine (Q_if_lt (tgt := 20) zm_116 (Or.inl (by decide)) D116_1 (by decide)).trans ?_
  refine zif_c (fun h0_ => ?_) (fun h0_ => ?_)
  · refine (Q_iconst (v := -1) zm_116 (Or.inl (by decide)) D116_20 (by decide)).trans ?_
    exact Q_ireturn zm_116 (Or.inl (by decide)) D116_21 rfl
  · refine (Q_iload_n zm_116 (Or.inl (by decide)) D116_4 rfl).trans ?_
    refine (Q_iconst (v := 4) zm_116 (Or.inl (by decide)) D116_5 (by decide)).trans ?_
    refine (Q_ic_gt (tgt := 20) zm_116 (Or.inl (by decide)) D116_6 (by decide)).trans ?_
    refine zif_c (fun h1_ => ?_) (fun h1_ => ?_)
    · refine (Q_iconst (v := -1) zm_116 (Or.inl (by decide)) D116_20 (by decide)).trans ?_
      exact Q_ireturn zm_116 (Or.inl (by decide)) D116_21 rfl
    · refine (Q_iload_n zm_116 (Or.inl (by decide)) D116_9 rfl).trans ?_
      refine (Q_if_lt (tgt := 20) zm_116 (Or.inl (by decide)) D116_10 (by decide)).trans ?_
      refine zif_c (fun h2_ => ?_) (fun h2_ => ?_)
      · refine (Q_iconst (v := -1) zm_116 (Or.inl (by decide)) D116_20 (by decide)).trans ?_
        exact Q_ireturn zm_116 (Or.inl (by decide)) D116_21 rfl
      · refine (Q_iload_n zm_116 (Or.inl (by decide)) D116_13 rfl).trans ?_
        refine (Q_sipush (v := 200) zm_116 (Or.inl (by decide)) D116_14 (by decide)).trans ?_
        refine (Q_ic_le (tgt := 22) zm_116 (Or.inl (by decide)) D116_17 (by decide)).trans ?_
        refine zif_c (fun h3_ => ?_) (fun h3_ => ?_)
        · refine (Q_iload_n zm_116 (Or.inl (by decide)) D116_22 rfl).trans ?_
          refine (Q_iconst (v := 2) zm_116 (Or.inl (by decide)) D116_23 (by decide)).trans ?_
          refine (Q_ic_ne (tgt := 38) zm_116 (Or.inl (by decide)) D116_24 (by decide)).trans ?_
          refine zif_c (fun h4_ => ?_) (fun h4_ => ?_)
          · refine (Q_iload_n zm_116 (Or.inl (by decide)) D116_38 rfl).trans ?_
            refine (Q_if_eq (tgt := 44) zm_116 (Or.inl (by decide)) D116_39 (by decide)).trans ?_
            refine zif_c (fun h5_ => ?_) (fun h5_ => ?_)
            · rfl
            · refine (Q_iconst (v := -1) zm_116 (Or.inl (by decide)) D116_42 (by decide)).trans ?_
              exact Q_ireturn zm_116 (Or.inl (by decide)) D116_43 rfl
          · refine (Q_aload_n zm_116 (Or.inl (by decide)) D116_27 rfl).trans ?_
            refine (Q_iload_n zm_116 (Or.inl (by decide)) D116_28 rfl).trans ?_
            exact Q_callv (as := [.int i2]) (b := 0) (rest := []) zm_116 (Or.inl (by decide)) D116_29 zc_9_122 rfl zk_0.1 (by decide) (by decide +kernel) (by decide) (by simp [zcat, Value.category]) zm_80 rfl
        · refine (Q_iconst (v := -1) zm_116 (Or.inl (by decide)) D116_20 (by decide)).trans ?_
          exact Q_ireturn zm_116 (Or.inl (by decide)) D116_21 rfl

theorem b116_44 {d : Nat} {i1 : Int32} {i2 : Int32} {i3 : Int32} {ia : Nat → Nat → Int32} {la : Nat → Nat → Int64} {pl dr : Nat} {cp : Option Nat} {cw : Option Nat} {rp : Option Nat} {K : Option Value → zHP → Prop}  : zWP (d + 1) 116 44 [some (.ref 0), some (.int i1), some (.int i2), some (.int i3)] [] (ia, la, zRA pl dr cp cw rp) K = (if ¬ i1 = 0 then (if ¬ i1 = (1 : Int32) then zWM d 92 [.ref 0, .int (1 : Int32)] (ia, la, zRA pl dr cp cw rp) (zK (d + 1) 116 66 [some (.ref 0), some (.int i1), some (.int i2), some (.int i3)] [] K) else zWM d 92 [.ref 0, .int (3 : Int32)] (ia, la, zRA pl dr cp cw rp) (zK (d + 1) 116 66 [some (.ref 0), some (.int i1), some (.int i2), some (.int i3)] [] K)) else zWM d 92 [.ref 0, .int (2 : Int32)] (ia, la, zRA pl dr cp cw rp) (zK (d + 1) 116 66 [some (.ref 0), some (.int i1), some (.int i2), some (.int i3)] [] K)) := by
  refine (Q_aload_n zm_116 (Or.inl (by decide)) D116_44 rfl).trans ?_
  refine (Q_iload_n zm_116 (Or.inl (by decide)) D116_45 rfl).trans ?_
  refine (Q_if_ne (tgt := 53) zm_116 (Or.inl (by decide)) D116_46 (by decide)).trans ?_
  refine zif_c (fun h0_ => ?_) (fun h0_ => ?_)
  · refine (Q_iload_n zm_116 (Or.inl (by decide)) D116_53 rfl).trans ?_
    refine (Q_iconst (v := 1) zm_116 (Or.inl (by decide)) D116_54 (by decide)).trans ?_
    refine (Q_ic_ne (tgt := 62) zm_116 (Or.inl (by decide)) D116_55 (by decide)).trans ?_
    refine zif_c (fun h1_ => ?_) (fun h1_ => ?_)
    · refine (Q_iconst (v := 1) zm_116 (Or.inl (by decide)) D116_62 (by decide)).trans ?_
      exact Q_callv (as := [.int (1 : Int32)]) (b := 0) (rest := []) zm_116 (Or.inl (by decide)) D116_63 zc_9_234 rfl zk_0.1 (by decide) (by decide +kernel) (by decide) (by simp [zcat, Value.category]) zm_92 rfl
    · refine (Q_iconst (v := 3) zm_116 (Or.inl (by decide)) D116_58 (by decide)).trans ?_
      refine (Q_goto (tgt := 63) zm_116 (Or.inl (by decide)) D116_59 (by decide)).trans ?_
      exact Q_callv (as := [.int (3 : Int32)]) (b := 0) (rest := []) zm_116 (Or.inl (by decide)) D116_63 zc_9_234 rfl zk_0.1 (by decide) (by decide +kernel) (by decide) (by simp [zcat, Value.category]) zm_92 rfl
  · refine (Q_iconst (v := 2) zm_116 (Or.inl (by decide)) D116_49 (by decide)).trans ?_
    refine (Q_goto (tgt := 63) zm_116 (Or.inl (by decide)) D116_50 (by decide)).trans ?_
    exact Q_callv (as := [.int (2 : Int32)]) (b := 0) (rest := []) zm_116 (Or.inl (by decide)) D116_63 zc_9_234 rfl zk_0.1 (by decide) (by decide +kernel) (by decide) (by simp [zcat, Value.category]) zm_92 rfl

theorem b116_32 {d : Nat} {i1 : Int32} {i2 : Int32} {i3 : Int32} {s0 : Int32} {ia : Nat → Nat → Int32} {la : Nat → Nat → Int64} {pl dr : Nat} {cp : Option Nat} {cw : Option Nat} {rp : Option Nat} {K : Option Value → zHP → Prop}  : zWP d 116 32 [some (.ref 0), some (.int i1), some (.int i2), some (.int i3)] [.int s0] (ia, la, zRA pl dr cp cw rp) K = (if ¬ s0 = 0 then zWP d 116 44 [some (.ref 0), some (.int i1), some (.int i2), some (.int i3)] [] (ia, la, zRA pl dr cp cw rp) K else K (some (.int (-1 : Int32))) (ia, la, zRA pl dr cp cw rp)) := by
  refine (Q_if_ne (tgt := 44) zm_116 (Or.inl (by decide)) D116_32 (by decide)).trans ?_
  refine zif_c (fun h0_ => ?_) (fun h0_ => ?_)
  · rfl
  · refine (Q_goto (tgt := 42) zm_116 (Or.inl (by decide)) D116_35 (by decide)).trans ?_
    refine (Q_iconst (v := -1) zm_116 (Or.inl (by decide)) D116_42 (by decide)).trans ?_
    exact Q_ireturn zm_116 (Or.inl (by decide)) D116_43 rfl

theorem b116_66 {d : Nat} {i1 : Int32} {i2 : Int32} {i3 : Int32} {ia : Nat → Nat → Int32} {la : Nat → Nat → Int64} {pl dr : Nat} {cp : Option Nat} {cw : Option Nat} {rp : Option Nat} {K : Option Value → zHP → Prop}  : zWP d 116 66 [some (.ref 0), some (.int i1), some (.int i2), some (.int i3)] [] (ia, la, zRA pl dr cp cw rp) K = (if ¬ i1 = (2 : Int32) then zWP d 116 80 [some (.ref 0), some (.int i1), some (.int i2), some (.int i3)] [.int (-1 : Int32), .ref 102] (ia, la, zRA pl dr cp cw rp) K else zWP d 116 80 [some (.ref 0), some (.int i1), some (.int i2), some (.int i3)] [.int i2, .ref 102] (ia, la, zRA pl dr cp cw rp) K) := by
  refine (Q_aload_n zm_116 (Or.inl (by decide)) D116_66 rfl).trans ?_
  refine (Q_getR (q := 102) zm_116 (Or.inl (by decide)) D116_67 zf_9_44 zs_9_7 zk_0.1 rfl).trans ?_
  refine (Q_iload_n zm_116 (Or.inl (by decide)) D116_70 rfl).trans ?_
  refine (Q_iconst (v := 2) zm_116 (Or.inl (by decide)) D116_71 (by decide)).trans ?_
  refine (Q_ic_ne (tgt := 79) zm_116 (Or.inl (by decide)) D116_72 (by decide)).trans ?_
  refine zif_c (fun h0_ => ?_) (fun h0_ => ?_)
  · refine (Q_iconst (v := -1) zm_116 (Or.inl (by decide)) D116_79 (by decide)).trans ?_
    rfl
  · refine (Q_iload_n zm_116 (Or.inl (by decide)) D116_75 rfl).trans ?_
    refine (Q_goto (tgt := 80) zm_116 (Or.inl (by decide)) D116_76 (by decide)).trans ?_
    rfl

theorem b116_80 {d : Nat} {i1 : Int32} {i2 : Int32} {i3 : Int32} {s1 : Int32} {ia : Nat → Nat → Int32} {la : Nat → Nat → Int64} {pl dr : Nat} {cp : Option Nat} {cw : Option Nat} {rp : Option Nat} {K : Option Value → zHP → Prop}  : zWP d 116 80 [some (.ref 0), some (.int i1), some (.int i2), some (.int i3)] [.int s1, .ref 102] (ia, la, zRA pl dr cp cw rp) K = (if ¬ i1 = (3 : Int32) then zWP d 116 97 [some (.ref 0), some (.int i1), some (.int i2), some (.int i3)] [.int (0 : Int32), .ref 102] ((zu ia 102 5 s1), la, zRA pl dr cp cw rp) K else zWP d 116 97 [some (.ref 0), some (.int i1), some (.int i2), some (.int i3)] [.int (1 : Int32), .ref 102] ((zu ia 102 5 s1), la, zRA pl dr cp cw rp) K) := by
  refine (Q_putI zm_116 (Or.inl (by decide)) D116_80 zf_9_310 zs_0_5 rfl zk_102.1).trans ?_
  refine (Q_aload_n zm_116 (Or.inl (by decide)) D116_83 rfl).trans ?_
  refine (Q_getR (q := 102) zm_116 (Or.inl (by decide)) D116_84 zf_9_44 zs_9_7 zk_0.1 rfl).trans ?_
  refine (Q_iload_n zm_116 (Or.inl (by decide)) D116_87 rfl).trans ?_
  refine (Q_iconst (v := 3) zm_116 (Or.inl (by decide)) D116_88 (by decide)).trans ?_
  refine (Q_ic_ne (tgt := 96) zm_116 (Or.inl (by decide)) D116_89 (by decide)).trans ?_
  refine zif_c (fun h0_ => ?_) (fun h0_ => ?_)
  · refine (Q_iconst (v := 0) zm_116 (Or.inl (by decide)) D116_96 (by decide)).trans ?_
    rfl
  · refine (Q_iconst (v := 1) zm_116 (Or.inl (by decide)) D116_92 (by decide)).trans ?_
    refine (Q_goto (tgt := 97) zm_116 (Or.inl (by decide)) D116_93 (by decide)).trans ?_
    rfl

theorem b116_97 {d : Nat} {i1 : Int32} {i2 : Int32} {i3 : Int32} {s1 : Int32} {ia : Nat → Nat → Int32} {la : Nat → Nat → Int64} {pl dr : Nat} {cp : Option Nat} {cw : Option Nat} {rp : Option Nat} {K : Option Value → zHP → Prop}  : zWP (d + 1) 116 97 [some (.ref 0), some (.int i1), some (.int i2), some (.int i3)] [.int s1, .ref 102] (ia, la, zRA pl dr cp cw rp) K = ((s1 = 0 ∨ s1 = 1) ∧ (if ¬ i1 = (4 : Int32) then zWM d 1 [.ref 102, .int i3] ((zu (zu ia 102 6 s1) 102 7 (0 : Int32)), la, zRA pl dr cp cw rp) (zK (d + 1) 116 125 [some (.ref 0), some (.int i1), some (.int i2), some (.int i3)] [] K) else zWM d 1 [.ref 102, .int i3] ((zu (zu ia 102 6 s1) 102 7 (1 : Int32)), la, zRA pl dr cp cw rp) (zK (d + 1) 116 125 [some (.ref 0), some (.int i1), some (.int i2), some (.int i3)] [] K))) := by
  refine (Q_putZG zm_116 (Or.inl (by decide)) D116_97 zf_9_313 zs_0_6 rfl zk_102.1).trans ?_
  refine zand_c (fun h0_ => ?_)
  refine (Q_aload_n zm_116 (Or.inl (by decide)) D116_100 rfl).trans ?_
  refine (Q_getR (q := 102) zm_116 (Or.inl (by decide)) D116_101 zf_9_44 zs_9_7 zk_0.1 rfl).trans ?_
  refine (Q_iload_n zm_116 (Or.inl (by decide)) D116_104 rfl).trans ?_
  refine (Q_iconst (v := 4) zm_116 (Or.inl (by decide)) D116_105 (by decide)).trans ?_
  refine (Q_ic_ne (tgt := 113) zm_116 (Or.inl (by decide)) D116_106 (by decide)).trans ?_
  refine zif_c (fun h1_ => ?_) (fun h1_ => ?_)
  · refine (Q_iconst (v := 0) zm_116 (Or.inl (by decide)) D116_113 (by decide)).trans ?_
    refine (Q_putZ zm_116 (Or.inl (by decide)) D116_114 zf_9_316 zs_0_7 rfl zk_102.1 (by decide)).trans ?_
    refine (Q_aload_n zm_116 (Or.inl (by decide)) D116_117 rfl).trans ?_
    refine (Q_getR (q := 102) zm_116 (Or.inl (by decide)) D116_118 zf_9_44 zs_9_7 zk_0.1 rfl).trans ?_
    refine (Q_iload_n zm_116 (Or.inl (by decide)) D116_121 rfl).trans ?_
    exact Q_callv (as := [.int i3]) (b := 102) (rest := []) zm_116 (Or.inl (by decide)) D116_122 zc_9_227 rfl zk_102.1 (by decide) (by decide +kernel) (by decide) (by simp [zcat, Value.category]) zm_1 rfl
  · refine (Q_iconst (v := 1) zm_116 (Or.inl (by decide)) D116_109 (by decide)).trans ?_
    refine (Q_goto (tgt := 114) zm_116 (Or.inl (by decide)) D116_110 (by decide)).trans ?_
    refine (Q_putZ zm_116 (Or.inl (by decide)) D116_114 zf_9_316 zs_0_7 rfl zk_102.1 (by decide)).trans ?_
    refine (Q_aload_n zm_116 (Or.inl (by decide)) D116_117 rfl).trans ?_
    refine (Q_getR (q := 102) zm_116 (Or.inl (by decide)) D116_118 zf_9_44 zs_9_7 zk_0.1 rfl).trans ?_
    refine (Q_iload_n zm_116 (Or.inl (by decide)) D116_121 rfl).trans ?_
    exact Q_callv (as := [.int i3]) (b := 102) (rest := []) zm_116 (Or.inl (by decide)) D116_122 zc_9_227 rfl zk_102.1 (by decide) (by decide +kernel) (by decide) (by simp [zcat, Value.category]) zm_1 rfl

theorem b116_125 {d : Nat} {i1 : Int32} {i2 : Int32} {i3 : Int32} {ia : Nat → Nat → Int32} {la : Nat → Nat → Int64} {pl dr : Nat} {cp : Option Nat} {cw : Option Nat} {rp : Option Nat} {K : Option Value → zHP → Prop}  : zWP (d + 1) 116 125 [some (.ref 0), some (.int i1), some (.int i2), some (.int i3)] [] (ia, la, zRA pl dr cp cw rp) K = zWM d 74 [.ref 92] (ia, la, zRA pl dr cp cw rp) (zK (d + 1) 116 132 [some (.ref 0), some (.int i1), some (.int i2), some (.int i3)] [] K) := by
  refine (Q_aload_n zm_116 (Or.inl (by decide)) D116_125 rfl).trans ?_
  refine (Q_getR (q := 92) zm_116 (Or.inl (by decide)) D116_126 zf_9_38 zs_9_5 zk_0.1 rfl).trans ?_
  exact Q_callv (as := []) (b := 92) (rest := []) zm_116 (Or.inl (by decide)) D116_129 zc_9_319 rfl zk_92.1 (by decide) (by decide +kernel) (by decide) (by simp [zcat, Value.category]) zm_74 rfl

theorem b116_132 {d : Nat} {i1 : Int32} {i2 : Int32} {i3 : Int32} {s0 : Int32} {ia : Nat → Nat → Int32} {la : Nat → Nat → Int64} {pl dr : Nat} {cp : Option Nat} {cw : Option Nat} {rp : Option Nat} {K : Option Value → zHP → Prop}  : zWP d 116 132 [some (.ref 0), some (.int i1), some (.int i2), some (.int i3)] [.int s0] (ia, la, zRA pl dr cp cw rp) K = K (some (.int s0)) (ia, la, zRA pl dr cp cw rp) := by
  exact Q_ireturn zm_116 (Or.inl (by decide)) D116_132 rfl

/-! HandsLet.see(IIIIZ)I -/
theorem D117_0 : decode prog_1_method_44_code 0 = .ok (.iload_n 1, 1) := by decide +kernel
theorem D117_1 : decode prog_1_method_44_code 1 = .ok (.iconst 1, 1) := by decide +kernel
theorem D117_2 : decode prog_1_method_44_code 2 = .ok (.if_icmp .lt 17, 3) := by decide +kernel
theorem D117_5 : decode prog_1_method_44_code 5 = .ok (.iload_n 1, 1) := by decide +kernel
theorem D117_6 : decode prog_1_method_44_code 6 = .ok (.bipush 60, 2) := by decide +kernel
theorem D117_8 : decode prog_1_method_44_code 8 = .ok (.if_icmp .gt 11, 3) := by decide +kernel
theorem D117_11 : decode prog_1_method_44_code 11 = .ok (.aload_n 0, 1) := by decide +kernel
theorem D117_12 : decode prog_1_method_44_code 12 = .ok (.iload_n 2, 1) := by decide +kernel
theorem D117_13 : decode prog_1_method_44_code 13 = .ok (.invokevirtual 122, 3) := by decide +kernel
theorem D117_16 : decode prog_1_method_44_code 16 = .ok (.ifCond .ne 5, 3) := by decide +kernel
theorem D117_19 : decode prog_1_method_44_code 19 = .ok (.iconst (-1), 1) := by decide +kernel
theorem D117_20 : decode prog_1_method_44_code 20 = .ok (.ireturn, 1) := by decide +kernel
theorem D117_21 : decode prog_1_method_44_code 21 = .ok (.iload_n 3, 1) := by decide +kernel
theorem D117_22 : decode prog_1_method_44_code 22 = .ok (.ifCond .lt 20, 3) := by decide +kernel
theorem D117_25 : decode prog_1_method_44_code 25 = .ok (.iload_n 3, 1) := by decide +kernel
theorem D117_26 : decode prog_1_method_44_code 26 = .ok (.iconst 3, 1) := by decide +kernel
theorem D117_27 : decode prog_1_method_44_code 27 = .ok (.if_icmp .ge 15, 3) := by decide +kernel
theorem D117_30 : decode prog_1_method_44_code 30 = .ok (.iload 4, 2) := by decide +kernel
theorem D117_32 : decode prog_1_method_44_code 32 = .ok (.ifCond .lt 10, 3) := by decide +kernel
theorem D117_35 : decode prog_1_method_44_code 35 = .ok (.iload 4, 2) := by decide +kernel
theorem D117_37 : decode prog_1_method_44_code 37 = .ok (.bipush 99, 2) := by decide +kernel
theorem D117_39 : decode prog_1_method_44_code 39 = .ok (.if_icmp .le 5, 3) := by decide +kernel
theorem D117_42 : decode prog_1_method_44_code 42 = .ok (.iconst (-1), 1) := by decide +kernel
theorem D117_43 : decode prog_1_method_44_code 43 = .ok (.ireturn, 1) := by decide +kernel
theorem D117_44 : decode prog_1_method_44_code 44 = .ok (.aload_n 0, 1) := by decide +kernel
theorem D117_45 : decode prog_1_method_44_code 45 = .ok (.getfield 51, 3) := by decide +kernel
theorem D117_48 : decode prog_1_method_44_code 48 = .ok (.iload_n 1, 1) := by decide +kernel
theorem D117_49 : decode prog_1_method_44_code 49 = .ok (.iload_n 2, 1) := by decide +kernel
theorem D117_50 : decode prog_1_method_44_code 50 = .ok (.iconst 3, 1) := by decide +kernel
theorem D117_51 : decode prog_1_method_44_code 51 = .ok (.imul, 1) := by decide +kernel
theorem D117_52 : decode prog_1_method_44_code 52 = .ok (.iload_n 3, 1) := by decide +kernel
theorem D117_53 : decode prog_1_method_44_code 53 = .ok (.iadd, 1) := by decide +kernel
theorem D117_54 : decode prog_1_method_44_code 54 = .ok (.iload 4, 2) := by decide +kernel
theorem D117_56 : decode prog_1_method_44_code 56 = .ok (.iload 5, 2) := by decide +kernel
theorem D117_58 : decode prog_1_method_44_code 58 = .ok (.invokevirtual 323, 3) := by decide +kernel
theorem D117_61 : decode prog_1_method_44_code 61 = .ok (.ireturn, 1) := by decide +kernel

theorem b117_0 {d : Nat} {i1 : Int32} {i2 : Int32} {i3 : Int32} {i4 : Int32} {i5 : Int32} {ia : Nat → Nat → Int32} {la : Nat → Nat → Int64} {pl dr : Nat} {cp : Option Nat} {cw : Option Nat} {rp : Option Nat} {K : Option Value → zHP → Prop}  : zWP (d + 1) 117 0 [some (.ref 0), some (.int i1), some (.int i2), some (.int i3), some (.int i4), some (.int i5)] [] (ia, la, zRA pl dr cp cw rp) K = (if i1 < (1 : Int32) then K (some (.int (-1 : Int32))) (ia, la, zRA pl dr cp cw rp) else (if (60 : Int32) < i1 then K (some (.int (-1 : Int32))) (ia, la, zRA pl dr cp cw rp) else zWM d 80 [.ref 0, .int i2] (ia, la, zRA pl dr cp cw rp) (zK (d + 1) 117 16 [some (.ref 0), some (.int i1), some (.int i2), some (.int i3), some (.int i4), some (.int i5)] [] K))) := by
  refine (Q_iload_n zm_117 (Or.inl (by decide)) D117_0 rfl).trans ?_
  refine (Q_iconst (v := 1) zm_117 (Or.inl (by decide)) D117_1 (by decide)).trans ?_
  refine (Q_ic_lt (tgt := 19) zm_117 (Or.inl (by decide)) D117_2 (by decide)).trans ?_
  refine zif_c (fun h0_ => ?_) (fun h0_ => ?_)
  · refine (Q_iconst (v := -1) zm_117 (Or.inl (by decide)) D117_19 (by decide)).trans ?_
    exact Q_ireturn zm_117 (Or.inl (by decide)) D117_20 rfl
  · refine (Q_iload_n zm_117 (Or.inl (by decide)) D117_5 rfl).trans ?_
    refine (Q_bipush (v := 60) zm_117 (Or.inl (by decide)) D117_6 (by decide)).trans ?_
    refine (Q_ic_gt (tgt := 19) zm_117 (Or.inl (by decide)) D117_8 (by decide)).trans ?_
    refine zif_c (fun h1_ => ?_) (fun h1_ => ?_)
    · refine (Q_iconst (v := -1) zm_117 (Or.inl (by decide)) D117_19 (by decide)).trans ?_
      exact Q_ireturn zm_117 (Or.inl (by decide)) D117_20 rfl
    · refine (Q_aload_n zm_117 (Or.inl (by decide)) D117_11 rfl).trans ?_
      refine (Q_iload_n zm_117 (Or.inl (by decide)) D117_12 rfl).trans ?_
      exact Q_callv (as := [.int i2]) (b := 0) (rest := []) zm_117 (Or.inl (by decide)) D117_13 zc_9_122 rfl zk_0.1 (by decide) (by decide +kernel) (by decide) (by simp [zcat, Value.category]) zm_80 rfl

theorem b117_16 {d : Nat} {i1 : Int32} {i2 : Int32} {i3 : Int32} {i4 : Int32} {i5 : Int32} {s0 : Int32} {ia : Nat → Nat → Int32} {la : Nat → Nat → Int64} {pl dr : Nat} {cp : Option Nat} {cw : Option Nat} {rp : Option Nat} {K : Option Value → zHP → Prop}  : zWP (d + 1) 117 16 [some (.ref 0), some (.int i1), some (.int i2), some (.int i3), some (.int i4), some (.int i5)] [.int s0] (ia, la, zRA pl dr cp cw rp) K = (if ¬ s0 = 0 then (if i3 < 0 then K (some (.int (-1 : Int32))) (ia, la, zRA pl dr cp cw rp) else (if (3 : Int32) ≤ i3 then K (some (.int (-1 : Int32))) (ia, la, zRA pl dr cp cw rp) else (if i4 < 0 then K (some (.int (-1 : Int32))) (ia, la, zRA pl dr cp cw rp) else (if i4 ≤ (99 : Int32) then zWM d 44 [.ref 106, .int i1, .int ((i2 * (3 : Int32)) + i3), .int i4, .int i5] (ia, la, zRA pl dr cp cw rp) (zK (d + 1) 117 61 [some (.ref 0), some (.int i1), some (.int i2), some (.int i3), some (.int i4), some (.int i5)] [] K) else K (some (.int (-1 : Int32))) (ia, la, zRA pl dr cp cw rp))))) else K (some (.int (-1 : Int32))) (ia, la, zRA pl dr cp cw rp)) := by
  refine (Q_if_ne (tgt := 21) zm_117 (Or.inl (by decide)) D117_16 (by decide)).trans ?_
  refine zif_c (fun h0_ => ?_) (fun h0_ => ?_)
  · refine (Q_iload_n zm_117 (Or.inl (by decide)) D117_21 rfl).trans ?_
    refine (Q_if_lt (tgt := 42) zm_117 (Or.inl (by decide)) D117_22 (by decide)).trans ?_
    refine zif_c (fun h1_ => ?_) (fun h1_ => ?_)
    · refine (Q_iconst (v := -1) zm_117 (Or.inl (by decide)) D117_42 (by decide)).trans ?_
      exact Q_ireturn zm_117 (Or.inl (by decide)) D117_43 rfl
    · refine (Q_iload_n zm_117 (Or.inl (by decide)) D117_25 rfl).trans ?_
      refine (Q_iconst (v := 3) zm_117 (Or.inl (by decide)) D117_26 (by decide)).trans ?_
      refine (Q_ic_ge (tgt := 42) zm_117 (Or.inl (by decide)) D117_27 (by decide)).trans ?_
      refine zif_c (fun h2_ => ?_) (fun h2_ => ?_)
      · refine (Q_iconst (v := -1) zm_117 (Or.inl (by decide)) D117_42 (by decide)).trans ?_
        exact Q_ireturn zm_117 (Or.inl (by decide)) D117_43 rfl
      · refine (Q_iload zm_117 (Or.inl (by decide)) D117_30 rfl).trans ?_
        refine (Q_if_lt (tgt := 42) zm_117 (Or.inl (by decide)) D117_32 (by decide)).trans ?_
        refine zif_c (fun h3_ => ?_) (fun h3_ => ?_)
        · refine (Q_iconst (v := -1) zm_117 (Or.inl (by decide)) D117_42 (by decide)).trans ?_
          exact Q_ireturn zm_117 (Or.inl (by decide)) D117_43 rfl
        · refine (Q_iload zm_117 (Or.inl (by decide)) D117_35 rfl).trans ?_
          refine (Q_bipush (v := 99) zm_117 (Or.inl (by decide)) D117_37 (by decide)).trans ?_
          refine (Q_ic_le (tgt := 44) zm_117 (Or.inl (by decide)) D117_39 (by decide)).trans ?_
          refine zif_c (fun h4_ => ?_) (fun h4_ => ?_)
          · refine (Q_aload_n zm_117 (Or.inl (by decide)) D117_44 rfl).trans ?_
            refine (Q_getR (q := 106) zm_117 (Or.inl (by decide)) D117_45 zf_9_51 zs_9_8 zk_0.1 rfl).trans ?_
            refine (Q_iload_n zm_117 (Or.inl (by decide)) D117_48 rfl).trans ?_
            refine (Q_iload_n zm_117 (Or.inl (by decide)) D117_49 rfl).trans ?_
            refine (Q_iconst (v := 3) zm_117 (Or.inl (by decide)) D117_50 (by decide)).trans ?_
            refine (Q_imul zm_117 (Or.inl (by decide)) D117_51).trans ?_
            refine (Q_iload_n zm_117 (Or.inl (by decide)) D117_52 rfl).trans ?_
            refine (Q_iadd zm_117 (Or.inl (by decide)) D117_53).trans ?_
            refine (Q_iload zm_117 (Or.inl (by decide)) D117_54 rfl).trans ?_
            refine (Q_iload zm_117 (Or.inl (by decide)) D117_56 rfl).trans ?_
            exact Q_callv (as := [.int i1, .int ((i2 * (3 : Int32)) + i3), .int i4, .int i5]) (b := 106) (rest := []) zm_117 (Or.inl (by decide)) D117_58 zc_9_323 rfl zk_106.1 (by decide) (by decide +kernel) (by decide) (by simp [zcat, Value.category]) zm_44 rfl
          · refine (Q_iconst (v := -1) zm_117 (Or.inl (by decide)) D117_42 (by decide)).trans ?_
            exact Q_ireturn zm_117 (Or.inl (by decide)) D117_43 rfl
  · refine (Q_iconst (v := -1) zm_117 (Or.inl (by decide)) D117_19 (by decide)).trans ?_
    exact Q_ireturn zm_117 (Or.inl (by decide)) D117_20 rfl

theorem b117_61 {d : Nat} {i1 : Int32} {i2 : Int32} {i3 : Int32} {i4 : Int32} {i5 : Int32} {s0 : Int32} {ia : Nat → Nat → Int32} {la : Nat → Nat → Int64} {pl dr : Nat} {cp : Option Nat} {cw : Option Nat} {rp : Option Nat} {K : Option Value → zHP → Prop}  : zWP d 117 61 [some (.ref 0), some (.int i1), some (.int i2), some (.int i3), some (.int i4), some (.int i5)] [.int s0] (ia, la, zRA pl dr cp cw rp) K = K (some (.int s0)) (ia, la, zRA pl dr cp cw rp) := by
  exact Q_ireturn zm_117 (Or.inl (by decide)) D117_61 rfl

/-! HandsLet.strike(I)I -/
theorem D118_0 : decode prog_1_method_45_code 0 = .ok (.aload_n 0, 1) := by decide +kernel
theorem D118_1 : decode prog_1_method_45_code 1 = .ok (.getfield 51, 3) := by decide +kernel
theorem D118_4 : decode prog_1_method_45_code 4 = .ok (.iload_n 1, 1) := by decide +kernel
theorem D118_5 : decode prog_1_method_45_code 5 = .ok (.invokevirtual 327, 3) := by decide +kernel
theorem D118_8 : decode prog_1_method_45_code 8 = .ok (.ireturn, 1) := by decide +kernel

theorem b118_0 {d : Nat} {i1 : Int32} {ia : Nat → Nat → Int32} {la : Nat → Nat → Int64} {pl dr : Nat} {cp : Option Nat} {cw : Option Nat} {rp : Option Nat} {K : Option Value → zHP → Prop}  : zWP (d + 1) 118 0 [some (.ref 0), some (.int i1)] [] (ia, la, zRA pl dr cp cw rp) K = zWM d 45 [.ref 106, .int i1] (ia, la, zRA pl dr cp cw rp) (zK (d + 1) 118 8 [some (.ref 0), some (.int i1)] [] K) := by
  refine (Q_aload_n zm_118 (Or.inl (by decide)) D118_0 rfl).trans ?_
  refine (Q_getR (q := 106) zm_118 (Or.inl (by decide)) D118_1 zf_9_51 zs_9_8 zk_0.1 rfl).trans ?_
  refine (Q_iload_n zm_118 (Or.inl (by decide)) D118_4 rfl).trans ?_
  exact Q_callv (as := [.int i1]) (b := 106) (rest := []) zm_118 (Or.inl (by decide)) D118_5 zc_9_327 rfl zk_106.1 (by decide) (by decide +kernel) (by decide) (by simp [zcat, Value.category]) zm_45 rfl

theorem b118_8 {d : Nat} {i1 : Int32} {s0 : Int32} {ia : Nat → Nat → Int32} {la : Nat → Nat → Int64} {pl dr : Nat} {cp : Option Nat} {cw : Option Nat} {rp : Option Nat} {K : Option Value → zHP → Prop}  : zWP d 118 8 [some (.ref 0), some (.int i1)] [.int s0] (ia, la, zRA pl dr cp cw rp) K = K (some (.int s0)) (ia, la, zRA pl dr cp cw rp) := by
  exact Q_ireturn zm_118 (Or.inl (by decide)) D118_8 rfl

/-! HandsLet.known(I)Z -/
theorem D119_0 : decode prog_1_method_46_code 0 = .ok (.aload_n 0, 1) := by decide +kernel
theorem D119_1 : decode prog_1_method_46_code 1 = .ok (.getfield 51, 3) := by decide +kernel
theorem D119_4 : decode prog_1_method_46_code 4 = .ok (.iload_n 1, 1) := by decide +kernel
theorem D119_5 : decode prog_1_method_46_code 5 = .ok (.invokevirtual 330, 3) := by decide +kernel
theorem D119_8 : decode prog_1_method_46_code 8 = .ok (.ireturn, 1) := by decide +kernel

theorem b119_0 {d : Nat} {i1 : Int32} {ia : Nat → Nat → Int32} {la : Nat → Nat → Int64} {pl dr : Nat} {cp : Option Nat} {cw : Option Nat} {rp : Option Nat} {K : Option Value → zHP → Prop}  : zWP (d + 1) 119 0 [some (.ref 0), some (.int i1)] [] (ia, la, zRA pl dr cp cw rp) K = zWM d 46 [.ref 106, .int i1] (ia, la, zRA pl dr cp cw rp) (zK (d + 1) 119 8 [some (.ref 0), some (.int i1)] [] K) := by
  refine (Q_aload_n zm_119 (Or.inl (by decide)) D119_0 rfl).trans ?_
  refine (Q_getR (q := 106) zm_119 (Or.inl (by decide)) D119_1 zf_9_51 zs_9_8 zk_0.1 rfl).trans ?_
  refine (Q_iload_n zm_119 (Or.inl (by decide)) D119_4 rfl).trans ?_
  exact Q_callv (as := [.int i1]) (b := 106) (rest := []) zm_119 (Or.inl (by decide)) D119_5 zc_9_330 rfl zk_106.1 (by decide) (by decide +kernel) (by decide) (by simp [zcat, Value.category]) zm_46 rfl

theorem b119_8 {d : Nat} {i1 : Int32} {s0 : Int32} {ia : Nat → Nat → Int32} {la : Nat → Nat → Int64} {pl dr : Nat} {cp : Option Nat} {cw : Option Nat} {rp : Option Nat} {K : Option Value → zHP → Prop}  : zWP d 119 8 [some (.ref 0), some (.int i1)] [.int s0] (ia, la, zRA pl dr cp cw rp) K = ((s0 = 0 ∨ s0 = 1) ∧ K (some (.int s0)) (ia, la, zRA pl dr cp cw rp)) := by
  exact Q_zret zm_119 (Or.inl (by decide)) D119_8 rfl

/-! HandsLet.wears()I -/
theorem D120_0 : decode prog_1_method_47_code 0 = .ok (.aload_n 0, 1) := by decide +kernel
theorem D120_1 : decode prog_1_method_47_code 1 = .ok (.getfield 51, 3) := by decide +kernel
theorem D120_4 : decode prog_1_method_47_code 4 = .ok (.invokevirtual 333, 3) := by decide +kernel
theorem D120_7 : decode prog_1_method_47_code 7 = .ok (.iconst 0, 1) := by decide +kernel
theorem D120_8 : decode prog_1_method_47_code 8 = .ok (.istore_n 1, 1) := by decide +kernel
theorem D120_9 : decode prog_1_method_47_code 9 = .ok (.iconst 0, 1) := by decide +kernel
theorem D120_10 : decode prog_1_method_47_code 10 = .ok (.istore_n 2, 1) := by decide +kernel
theorem D120_11 : decode prog_1_method_47_code 11 = .ok (.iload_n 2, 1) := by decide +kernel
theorem D120_12 : decode prog_1_method_47_code 12 = .ok (.bipush 11, 2) := by decide +kernel
theorem D120_14 : decode prog_1_method_47_code 14 = .ok (.if_icmp .ge 23, 3) := by decide +kernel
theorem D120_17 : decode prog_1_method_47_code 17 = .ok (.aload_n 0, 1) := by decide +kernel
theorem D120_18 : decode prog_1_method_47_code 18 = .ok (.iload_n 2, 1) := by decide +kernel
theorem D120_19 : decode prog_1_method_47_code 19 = .ok (.invokevirtual 336, 3) := by decide +kernel
theorem D120_22 : decode prog_1_method_47_code 22 = .ok (.ifCond .eq 9, 3) := by decide +kernel
theorem D120_25 : decode prog_1_method_47_code 25 = .ok (.iload_n 1, 1) := by decide +kernel
theorem D120_26 : decode prog_1_method_47_code 26 = .ok (.iconst 1, 1) := by decide +kernel
theorem D120_27 : decode prog_1_method_47_code 27 = .ok (.iload_n 2, 1) := by decide +kernel
theorem D120_28 : decode prog_1_method_47_code 28 = .ok (.ishl, 1) := by decide +kernel
theorem D120_29 : decode prog_1_method_47_code 29 = .ok (.ior, 1) := by decide +kernel
theorem D120_30 : decode prog_1_method_47_code 30 = .ok (.istore_n 1, 1) := by decide +kernel
theorem D120_31 : decode prog_1_method_47_code 31 = .ok (.iinc 2 1, 3) := by decide +kernel
theorem D120_34 : decode prog_1_method_47_code 34 = .ok (.goto (-23), 3) := by decide +kernel
theorem D120_37 : decode prog_1_method_47_code 37 = .ok (.iload_n 1, 1) := by decide +kernel
theorem D120_38 : decode prog_1_method_47_code 38 = .ok (.ireturn, 1) := by decide +kernel

theorem b120_0 {d : Nat}  {ia : Nat → Nat → Int32} {la : Nat → Nat → Int64} {pl dr : Nat} {cp : Option Nat} {cw : Option Nat} {rp : Option Nat} {K : Option Value → zHP → Prop}  : zWP (d + 1) 120 0 [some (.ref 0), none, none] [] (ia, la, zRA pl dr cp cw rp) K = zWM d 48 [.ref 106] (ia, la, zRA pl dr cp cw rp) (zK (d + 1) 120 7 [some (.ref 0), none, none] [] K) := by
  refine (Q_aload_n zm_120 (Or.inl (by decide)) D120_0 rfl).trans ?_
  refine (Q_getR (q := 106) zm_120 (Or.inl (by decide)) D120_1 zf_9_51 zs_9_8 zk_0.1 rfl).trans ?_
  exact Q_callv (as := []) (b := 106) (rest := []) zm_120 (Or.inl (by decide)) D120_4 zc_9_333 rfl zk_106.1 (by decide) (by decide +kernel) (by decide) (by simp [zcat, Value.category]) zm_48 rfl

theorem b120_7 {d : Nat}  {ia : Nat → Nat → Int32} {la : Nat → Nat → Int64} {pl dr : Nat} {cp : Option Nat} {cw : Option Nat} {rp : Option Nat} {K : Option Value → zHP → Prop}  : zWP d 120 7 [some (.ref 0), none, none] [] (ia, la, zRA pl dr cp cw rp) K = zWP d 120 11 [some (.ref 0), some (.int (0 : Int32)), some (.int (0 : Int32))] [] (ia, la, zRA pl dr cp cw rp) K := by
  refine (Q_iconst (v := 0) zm_120 (Or.inl (by decide)) D120_7 (by decide)).trans ?_
  refine (Q_istore_n (ls' := [some (.ref 0), some (.int (0 : Int32)), none]) zm_120 (Or.inl (by decide)) D120_8 rfl (Nat.le_of_ble_eq_true rfl) rfl).trans ?_
  refine (Q_iconst (v := 0) zm_120 (Or.inl (by decide)) D120_9 (by decide)).trans ?_
  refine (Q_istore_n (ls' := [some (.ref 0), some (.int (0 : Int32)), some (.int (0 : Int32))]) zm_120 (Or.inl (by decide)) D120_10 rfl (Nat.le_of_ble_eq_true rfl) rfl).trans ?_
  rfl

theorem b120_11 {d : Nat} {i1 : Int32} {i2 : Int32} {ia : Nat → Nat → Int32} {la : Nat → Nat → Int64} {pl dr : Nat} {cp : Option Nat} {cw : Option Nat} {rp : Option Nat} {K : Option Value → zHP → Prop}  : zWP (d + 1) 120 11 [some (.ref 0), some (.int i1), some (.int i2)] [] (ia, la, zRA pl dr cp cw rp) K = (if (11 : Int32) ≤ i2 then K (some (.int i1)) (ia, la, zRA pl dr cp cw rp) else zWM d 121 [.ref 0, .int i2] (ia, la, zRA pl dr cp cw rp) (zK (d + 1) 120 22 [some (.ref 0), some (.int i1), some (.int i2)] [] K)) := by
  refine (Q_iload_n zm_120 (Or.inl (by decide)) D120_11 rfl).trans ?_
  refine (Q_bipush (v := 11) zm_120 (Or.inl (by decide)) D120_12 (by decide)).trans ?_
  refine (Q_ic_ge (tgt := 37) zm_120 (Or.inl (by decide)) D120_14 (by decide)).trans ?_
  refine zif_c (fun h0_ => ?_) (fun h0_ => ?_)
  · refine (Q_iload_n zm_120 (Or.inl (by decide)) D120_37 rfl).trans ?_
    exact Q_ireturn zm_120 (Or.inl (by decide)) D120_38 rfl
  · refine (Q_aload_n zm_120 (Or.inl (by decide)) D120_17 rfl).trans ?_
    refine (Q_iload_n zm_120 (Or.inl (by decide)) D120_18 rfl).trans ?_
    exact Q_callv (as := [.int i2]) (b := 0) (rest := []) zm_120 (Or.inl (by decide)) D120_19 zc_9_336 rfl zk_0.1 (by decide) (by decide +kernel) (by decide) (by simp [zcat, Value.category]) zm_121 rfl

theorem b120_22 {d : Nat} {i1 : Int32} {i2 : Int32} {s0 : Int32} {ia : Nat → Nat → Int32} {la : Nat → Nat → Int64} {pl dr : Nat} {cp : Option Nat} {cw : Option Nat} {rp : Option Nat} {K : Option Value → zHP → Prop}  : zWP d 120 22 [some (.ref 0), some (.int i1), some (.int i2)] [.int s0] (ia, la, zRA pl dr cp cw rp) K = (if s0 = 0 then zWP d 120 11 [some (.ref 0), some (.int i1), some (.int (i2 + (1 : Int32)))] [] (ia, la, zRA pl dr cp cw rp) K else zWP d 120 11 [some (.ref 0), some (.int (i1 ||| ((1 : Int32) <<< (i2 &&& 31)))), some (.int (i2 + (1 : Int32)))] [] (ia, la, zRA pl dr cp cw rp) K) := by
  refine (Q_if_eq (tgt := 31) zm_120 (Or.inl (by decide)) D120_22 (by decide)).trans ?_
  refine zif_c (fun h0_ => ?_) (fun h0_ => ?_)
  · refine (Q_iinc (v := 1) (ls' := [some (.ref 0), some (.int i1), some (.int (i2 + (1 : Int32)))]) zm_120 (Or.inl (by decide)) D120_31 rfl rfl (by decide) rfl).trans ?_
    refine (Q_goto (tgt := 11) zm_120 (Or.inl (by decide)) D120_34 (by decide)).trans ?_
    rfl
  · refine (Q_iload_n zm_120 (Or.inl (by decide)) D120_25 rfl).trans ?_
    refine (Q_iconst (v := 1) zm_120 (Or.inl (by decide)) D120_26 (by decide)).trans ?_
    refine (Q_iload_n zm_120 (Or.inl (by decide)) D120_27 rfl).trans ?_
    refine (Q_ishl zm_120 (Or.inl (by decide)) D120_28).trans ?_
    refine (Q_ior zm_120 (Or.inl (by decide)) D120_29).trans ?_
    refine (Q_istore_n (ls' := [some (.ref 0), some (.int (i1 ||| ((1 : Int32) <<< (i2 &&& 31)))), some (.int i2)]) zm_120 (Or.inl (by decide)) D120_30 rfl (Nat.le_of_ble_eq_true rfl) rfl).trans ?_
    refine (Q_iinc (v := 1) (ls' := [some (.ref 0), some (.int (i1 ||| ((1 : Int32) <<< (i2 &&& 31)))), some (.int (i2 + (1 : Int32)))]) zm_120 (Or.inl (by decide)) D120_31 rfl rfl (by decide) rfl).trans ?_
    refine (Q_goto (tgt := 11) zm_120 (Or.inl (by decide)) D120_34 (by decide)).trans ?_
    rfl

/-! HandsLet.agreesWith(I)Z -/
theorem D121_0 : decode prog_1_method_48_code 0 = .ok (.aload_n 0, 1) := by decide +kernel
theorem D121_1 : decode prog_1_method_48_code 1 = .ok (.getfield 38, 3) := by decide +kernel
theorem D121_4 : decode prog_1_method_48_code 4 = .ok (.aload_n 0, 1) := by decide +kernel
theorem D121_5 : decode prog_1_method_48_code 5 = .ok (.getfield 21, 3) := by decide +kernel
theorem D121_8 : decode prog_1_method_48_code 8 = .ok (.invokevirtual 94, 3) := by decide +kernel
theorem D121_11 : decode prog_1_method_48_code 11 = .ok (.aload_n 0, 1) := by decide +kernel
theorem D121_12 : decode prog_1_method_48_code 12 = .ok (.getfield 44, 3) := by decide +kernel
theorem D121_15 : decode prog_1_method_48_code 15 = .ok (.aload_n 0, 1) := by decide +kernel
theorem D121_16 : decode prog_1_method_48_code 16 = .ok (.getfield 21, 3) := by decide +kernel
theorem D121_19 : decode prog_1_method_48_code 19 = .ok (.aload_n 0, 1) := by decide +kernel
theorem D121_20 : decode prog_1_method_48_code 20 = .ok (.getfield 38, 3) := by decide +kernel
theorem D121_23 : decode prog_1_method_48_code 23 = .ok (.iconst 1, 1) := by decide +kernel
theorem D121_24 : decode prog_1_method_48_code 24 = .ok (.invokevirtual 195, 3) := by decide +kernel
theorem D121_27 : decode prog_1_method_48_code 27 = .ok (.aload_n 0, 1) := by decide +kernel
theorem D121_28 : decode prog_1_method_48_code 28 = .ok (.getfield 44, 3) := by decide +kernel
theorem D121_31 : decode prog_1_method_48_code 31 = .ok (.bipush 10, 2) := by decide +kernel
theorem D121_33 : decode prog_1_method_48_code 33 = .ok (.iload_n 1, 1) := by decide +kernel
theorem D121_34 : decode prog_1_method_48_code 34 = .ok (.imul, 1) := by decide +kernel
theorem D121_35 : decode prog_1_method_48_code 35 = .ok (.putfield 339, 3) := by decide +kernel
theorem D121_38 : decode prog_1_method_48_code 38 = .ok (.iconst 1, 1) := by decide +kernel
theorem D121_39 : decode prog_1_method_48_code 39 = .ok (.istore_n 2, 1) := by decide +kernel
theorem D121_40 : decode prog_1_method_48_code 40 = .ok (.iload_n 2, 1) := by decide +kernel
theorem D121_41 : decode prog_1_method_48_code 41 = .ok (.aload_n 0, 1) := by decide +kernel
theorem D121_42 : decode prog_1_method_48_code 42 = .ok (.getfield 51, 3) := by decide +kernel
theorem D121_45 : decode prog_1_method_48_code 45 = .ok (.getfield 342, 3) := by decide +kernel
theorem D121_48 : decode prog_1_method_48_code 48 = .ok (.if_icmp .gt 36, 3) := by decide +kernel
theorem D121_51 : decode prog_1_method_48_code 51 = .ok (.aload_n 0, 1) := by decide +kernel
theorem D121_52 : decode prog_1_method_48_code 52 = .ok (.getfield 44, 3) := by decide +kernel
theorem D121_55 : decode prog_1_method_48_code 55 = .ok (.invokevirtual 345, 3) := by decide +kernel
theorem D121_58 : decode prog_1_method_48_code 58 = .ok (.aload_n 0, 1) := by decide +kernel
theorem D121_59 : decode prog_1_method_48_code 59 = .ok (.getfield 51, 3) := by decide +kernel
theorem D121_62 : decode prog_1_method_48_code 62 = .ok (.iload_n 2, 1) := by decide +kernel
theorem D121_63 : decode prog_1_method_48_code 63 = .ok (.aload_n 0, 1) := by decide +kernel
theorem D121_64 : decode prog_1_method_48_code 64 = .ok (.getfield 38, 3) := by decide +kernel
theorem D121_67 : decode prog_1_method_48_code 67 = .ok (.getfield 129, 3) := by decide +kernel
theorem D121_70 : decode prog_1_method_48_code 70 = .ok (.invokevirtual 348, 3) := by decide +kernel
theorem D121_73 : decode prog_1_method_48_code 73 = .ok (.ifCond .ne 5, 3) := by decide +kernel
theorem D121_76 : decode prog_1_method_48_code 76 = .ok (.iconst 0, 1) := by decide +kernel
theorem D121_77 : decode prog_1_method_48_code 77 = .ok (.ireturn, 1) := by decide +kernel
theorem D121_78 : decode prog_1_method_48_code 78 = .ok (.iinc 2 1, 3) := by decide +kernel
theorem D121_81 : decode prog_1_method_48_code 81 = .ok (.goto (-41), 3) := by decide +kernel
theorem D121_84 : decode prog_1_method_48_code 84 = .ok (.iconst 1, 1) := by decide +kernel
theorem D121_85 : decode prog_1_method_48_code 85 = .ok (.ireturn, 1) := by decide +kernel

theorem b121_0 {d : Nat} {i1 : Int32} {ia : Nat → Nat → Int32} {la : Nat → Nat → Int64} {pl dr : Nat} {cp : Option Nat} {cw : Option Nat} {rp : Option Nat} {K : Option Value → zHP → Prop}  : zWP (d + 1) 121 0 [some (.ref 0), some (.int i1), none] [] (ia, la, zRA pl dr cp cw rp) K = zWM d 67 [.ref 92, .ref pl] (ia, la, zRA pl dr cp cw rp) (zK (d + 1) 121 11 [some (.ref 0), some (.int i1), none] [] K) := by
  refine (Q_aload_n zm_121 (Or.inl (by decide)) D121_0 rfl).trans ?_
  refine (Q_getR (q := 92) zm_121 (Or.inl (by decide)) D121_1 zf_9_38 zs_9_5 zk_0.1 rfl).trans ?_
  refine (Q_aload_n zm_121 (Or.inl (by decide)) D121_4 rfl).trans ?_
  refine (Q_getR (q := pl) zm_121 (Or.inl (by decide)) D121_5 zf_9_21 zs_9_1 zk_0.1 rfl).trans ?_
  exact Q_callv (as := [.ref pl]) (b := 92) (rest := []) zm_121 (Or.inl (by decide)) D121_8 zc_9_94 rfl zk_92.1 (by decide) (by decide +kernel) (by decide) (by simp [zcat, Value.category]) zm_67 rfl

theorem b121_11 {d : Nat} {i1 : Int32} {ia : Nat → Nat → Int32} {la : Nat → Nat → Int64} {pl dr : Nat} {cp : Option Nat} {cw : Option Nat} {rp : Option Nat} {K : Option Value → zHP → Prop}  : zWP (d + 1) 121 11 [some (.ref 0), some (.int i1), none] [] (ia, la, zRA pl dr cp cw rp) K = zWM d 0 [.ref 102, .ref pl, .ref 92, .int (1 : Int32)] (ia, la, zRA pl dr cp cw rp) (zK (d + 1) 121 27 [some (.ref 0), some (.int i1), none] [] K) := by
  refine (Q_aload_n zm_121 (Or.inl (by decide)) D121_11 rfl).trans ?_
  refine (Q_getR (q := 102) zm_121 (Or.inl (by decide)) D121_12 zf_9_44 zs_9_7 zk_0.1 rfl).trans ?_
  refine (Q_aload_n zm_121 (Or.inl (by decide)) D121_15 rfl).trans ?_
  refine (Q_getR (q := pl) zm_121 (Or.inl (by decide)) D121_16 zf_9_21 zs_9_1 zk_0.1 rfl).trans ?_
  refine (Q_aload_n zm_121 (Or.inl (by decide)) D121_19 rfl).trans ?_
  refine (Q_getR (q := 92) zm_121 (Or.inl (by decide)) D121_20 zf_9_38 zs_9_5 zk_0.1 rfl).trans ?_
  refine (Q_iconst (v := 1) zm_121 (Or.inl (by decide)) D121_23 (by decide)).trans ?_
  exact Q_callv (as := [.ref pl, .ref 92, .int (1 : Int32)]) (b := 102) (rest := []) zm_121 (Or.inl (by decide)) D121_24 zc_9_195 rfl zk_102.1 (by decide) (by decide +kernel) (by decide) (by simp [zcat, Value.category]) zm_0 rfl

theorem b121_27 {d : Nat} {i1 : Int32} {ia : Nat → Nat → Int32} {la : Nat → Nat → Int64} {pl dr : Nat} {cp : Option Nat} {cw : Option Nat} {rp : Option Nat} {K : Option Value → zHP → Prop}  : zWP d 121 27 [some (.ref 0), some (.int i1), none] [] (ia, la, zRA pl dr cp cw rp) K = zWP d 121 40 [some (.ref 0), some (.int i1), some (.int (1 : Int32))] [] ((zu ia 102 4 ((10 : Int32) * i1)), la, zRA pl dr cp cw rp) K := by
  refine (Q_aload_n zm_121 (Or.inl (by decide)) D121_27 rfl).trans ?_
  refine (Q_getR (q := 102) zm_121 (Or.inl (by decide)) D121_28 zf_9_44 zs_9_7 zk_0.1 rfl).trans ?_
  refine (Q_bipush (v := 10) zm_121 (Or.inl (by decide)) D121_31 (by decide)).trans ?_
  refine (Q_iload_n zm_121 (Or.inl (by decide)) D121_33 rfl).trans ?_
  refine (Q_imul zm_121 (Or.inl (by decide)) D121_34).trans ?_
  refine (Q_putI zm_121 (Or.inl (by decide)) D121_35 zf_9_339 zs_0_4 rfl zk_102.1).trans ?_
  refine (Q_iconst (v := 1) zm_121 (Or.inl (by decide)) D121_38 (by decide)).trans ?_
  refine (Q_istore_n (ls' := [some (.ref 0), some (.int i1), some (.int (1 : Int32))]) zm_121 (Or.inl (by decide)) D121_39 rfl (Nat.le_of_ble_eq_true rfl) rfl).trans ?_
  rfl

theorem b121_40 {d : Nat} {i1 : Int32} {i2 : Int32} {ia : Nat → Nat → Int32} {la : Nat → Nat → Int64} {pl dr : Nat} {cp : Option Nat} {cw : Option Nat} {rp : Option Nat} {K : Option Value → zHP → Prop}  : zWP (d + 1) 121 40 [some (.ref 0), some (.int i1), some (.int i2)] [] (ia, la, zRA pl dr cp cw rp) K = (if (ia 106 1) < i2 then K (some (.int (1 : Int32))) (ia, la, zRA pl dr cp cw rp) else zWM d 2 [.ref 102] (ia, la, zRA pl dr cp cw rp) (zK (d + 1) 121 58 [some (.ref 0), some (.int i1), some (.int i2)] [] K)) := by
  refine (Q_iload_n zm_121 (Or.inl (by decide)) D121_40 rfl).trans ?_
  refine (Q_aload_n zm_121 (Or.inl (by decide)) D121_41 rfl).trans ?_
  refine (Q_getR (q := 106) zm_121 (Or.inl (by decide)) D121_42 zf_9_51 zs_9_8 zk_0.1 rfl).trans ?_
  refine (Q_getI zm_121 (Or.inl (by decide)) D121_45 zf_9_342 (Or.inl zs_5_1) zk_106.1).trans ?_
  refine (Q_ic_gt (tgt := 84) zm_121 (Or.inl (by decide)) D121_48 (by decide)).trans ?_
  refine zif_c (fun h0_ => ?_) (fun h0_ => ?_)
  · refine (Q_iconst (v := 1) zm_121 (Or.inl (by decide)) D121_84 (by decide)).trans ?_
    exact Q_zreturn zm_121 (Or.inl (by decide)) D121_85 rfl (by decide)
  · refine (Q_aload_n zm_121 (Or.inl (by decide)) D121_51 rfl).trans ?_
    refine (Q_getR (q := 102) zm_121 (Or.inl (by decide)) D121_52 zf_9_44 zs_9_7 zk_0.1 rfl).trans ?_
    exact Q_callv (as := []) (b := 102) (rest := []) zm_121 (Or.inl (by decide)) D121_55 zc_9_345 rfl zk_102.1 (by decide) (by decide +kernel) (by decide) (by simp [zcat, Value.category]) zm_2 rfl

theorem b121_58 {d : Nat} {i1 : Int32} {i2 : Int32} {ia : Nat → Nat → Int32} {la : Nat → Nat → Int64} {pl dr : Nat} {cp : Option Nat} {cw : Option Nat} {rp : Option Nat} {K : Option Value → zHP → Prop}  : zWP (d + 1) 121 58 [some (.ref 0), some (.int i1), some (.int i2)] [] (ia, la, zRA pl dr cp cw rp) K = zWM d 49 [.ref 106, .int i2, .ref 94] (ia, la, zRA pl dr cp cw rp) (zK (d + 1) 121 73 [some (.ref 0), some (.int i1), some (.int i2)] [] K) := by
  refine (Q_aload_n zm_121 (Or.inl (by decide)) D121_58 rfl).trans ?_
  refine (Q_getR (q := 106) zm_121 (Or.inl (by decide)) D121_59 zf_9_51 zs_9_8 zk_0.1 rfl).trans ?_
  refine (Q_iload_n zm_121 (Or.inl (by decide)) D121_62 rfl).trans ?_
  refine (Q_aload_n zm_121 (Or.inl (by decide)) D121_63 rfl).trans ?_
  refine (Q_getR (q := 92) zm_121 (Or.inl (by decide)) D121_64 zf_9_38 zs_9_5 zk_0.1 rfl).trans ?_
  refine (Q_getR (q := 94) zm_121 (Or.inl (by decide)) D121_67 zf_9_129 zs_8_3 zk_92.1 rfl).trans ?_
  exact Q_callv (as := [.int i2, .ref 94]) (b := 106) (rest := []) zm_121 (Or.inl (by decide)) D121_70 zc_9_348 rfl zk_106.1 (by decide) (by decide +kernel) (by decide) (by simp [zcat, Value.category]) zm_49 rfl

theorem b121_73 {d : Nat} {i1 : Int32} {i2 : Int32} {s0 : Int32} {ia : Nat → Nat → Int32} {la : Nat → Nat → Int64} {pl dr : Nat} {cp : Option Nat} {cw : Option Nat} {rp : Option Nat} {K : Option Value → zHP → Prop}  : zWP d 121 73 [some (.ref 0), some (.int i1), some (.int i2)] [.int s0] (ia, la, zRA pl dr cp cw rp) K = (if ¬ s0 = 0 then zWP d 121 40 [some (.ref 0), some (.int i1), some (.int (i2 + (1 : Int32)))] [] (ia, la, zRA pl dr cp cw rp) K else K (some (.int (0 : Int32))) (ia, la, zRA pl dr cp cw rp)) := by
  refine (Q_if_ne (tgt := 78) zm_121 (Or.inl (by decide)) D121_73 (by decide)).trans ?_
  refine zif_c (fun h0_ => ?_) (fun h0_ => ?_)
  · refine (Q_iinc (v := 1) (ls' := [some (.ref 0), some (.int i1), some (.int (i2 + (1 : Int32)))]) zm_121 (Or.inl (by decide)) D121_78 rfl rfl (by decide) rfl).trans ?_
    refine (Q_goto (tgt := 40) zm_121 (Or.inl (by decide)) D121_81 (by decide)).trans ?_
    rfl
  · refine (Q_iconst (v := 0) zm_121 (Or.inl (by decide)) D121_76 (by decide)).trans ?_
    exact Q_zreturn zm_121 (Or.inl (by decide)) D121_77 rfl (by decide)

/-! HandsLet.ask(II)I -/
theorem D122_0 : decode prog_1_method_49_code 0 = .ok (.aload_n 0, 1) := by decide +kernel
theorem D122_1 : decode prog_1_method_49_code 1 = .ok (.iload_n 1, 1) := by decide +kernel
theorem D122_2 : decode prog_1_method_49_code 2 = .ok (.invokevirtual 122, 3) := by decide +kernel
theorem D122_5 : decode prog_1_method_49_code 5 = .ok (.ifCond .eq 12, 3) := by decide +kernel
theorem D122_8 : decode prog_1_method_49_code 8 = .ok (.iload_n 2, 1) := by decide +kernel
theorem D122_9 : decode prog_1_method_49_code 9 = .ok (.ifCond .lt 8, 3) := by decide +kernel
theorem D122_12 : decode prog_1_method_49_code 12 = .ok (.iload_n 2, 1) := by decide +kernel
theorem D122_13 : decode prog_1_method_49_code 13 = .ok (.iconst 1, 1) := by decide +kernel
theorem D122_14 : decode prog_1_method_49_code 14 = .ok (.if_icmp .le 5, 3) := by decide +kernel
theorem D122_17 : decode prog_1_method_49_code 17 = .ok (.iconst (-1), 1) := by decide +kernel
theorem D122_18 : decode prog_1_method_49_code 18 = .ok (.ireturn, 1) := by decide +kernel
theorem D122_19 : decode prog_1_method_49_code 19 = .ok (.aload_n 0, 1) := by decide +kernel
theorem D122_20 : decode prog_1_method_49_code 20 = .ok (.getfield 51, 3) := by decide +kernel
theorem D122_23 : decode prog_1_method_49_code 23 = .ok (.invokevirtual 333, 3) := by decide +kernel
theorem D122_26 : decode prog_1_method_49_code 26 = .ok (.iconst 0, 1) := by decide +kernel
theorem D122_27 : decode prog_1_method_49_code 27 = .ok (.istore_n 3, 1) := by decide +kernel
theorem D122_28 : decode prog_1_method_49_code 28 = .ok (.iconst 0, 1) := by decide +kernel
theorem D122_29 : decode prog_1_method_49_code 29 = .ok (.istore 4, 2) := by decide +kernel
theorem D122_31 : decode prog_1_method_49_code 31 = .ok (.iload 4, 2) := by decide +kernel
theorem D122_33 : decode prog_1_method_49_code 33 = .ok (.bipush 11, 2) := by decide +kernel
theorem D122_35 : decode prog_1_method_49_code 35 = .ok (.if_icmp .ge 64, 3) := by decide +kernel
theorem D122_38 : decode prog_1_method_49_code 38 = .ok (.aload_n 0, 1) := by decide +kernel
theorem D122_39 : decode prog_1_method_49_code 39 = .ok (.iload 4, 2) := by decide +kernel
theorem D122_41 : decode prog_1_method_49_code 41 = .ok (.invokevirtual 336, 3) := by decide +kernel
theorem D122_44 : decode prog_1_method_49_code 44 = .ok (.ifCond .eq 49, 3) := by decide +kernel
theorem D122_47 : decode prog_1_method_49_code 47 = .ok (.aload_n 0, 1) := by decide +kernel
theorem D122_48 : decode prog_1_method_49_code 48 = .ok (.getfield 44, 3) := by decide +kernel
theorem D122_51 : decode prog_1_method_49_code 51 = .ok (.bipush 60, 2) := by decide +kernel
theorem D122_53 : decode prog_1_method_49_code 53 = .ok (.aload_n 0, 1) := by decide +kernel
theorem D122_54 : decode prog_1_method_49_code 54 = .ok (.getfield 51, 3) := by decide +kernel
theorem D122_57 : decode prog_1_method_49_code 57 = .ok (.getfield 342, 3) := by decide +kernel
theorem D122_60 : decode prog_1_method_49_code 60 = .ok (.isub, 1) := by decide +kernel
theorem D122_61 : decode prog_1_method_49_code 61 = .ok (.invokevirtual 227, 3) := by decide +kernel
theorem D122_64 : decode prog_1_method_49_code 64 = .ok (.aload_n 0, 1) := by decide +kernel
theorem D122_65 : decode prog_1_method_49_code 65 = .ok (.getfield 69, 3) := by decide +kernel
theorem D122_68 : decode prog_1_method_49_code 68 = .ok (.iload 4, 2) := by decide +kernel
theorem D122_70 : decode prog_1_method_49_code 70 = .ok (.aload_n 0, 1) := by decide +kernel
theorem D122_71 : decode prog_1_method_49_code 71 = .ok (.getfield 38, 3) := by decide +kernel
theorem D122_74 : decode prog_1_method_49_code 74 = .ok (.getfield 129, 3) := by decide +kernel
theorem D122_77 : decode prog_1_method_49_code 77 = .ok (.iload_n 1, 1) := by decide +kernel
theorem D122_78 : decode prog_1_method_49_code 78 = .ok (.iconst 3, 1) := by decide +kernel
theorem D122_79 : decode prog_1_method_49_code 79 = .ok (.imul, 1) := by decide +kernel
theorem D122_80 : decode prog_1_method_49_code 80 = .ok (.iaload, 1) := by decide +kernel
theorem D122_81 : decode prog_1_method_49_code 81 = .ok (.sipush 1000, 3) := by decide +kernel
theorem D122_84 : decode prog_1_method_49_code 84 = .ok (.idiv, 1) := by decide +kernel
theorem D122_85 : decode prog_1_method_49_code 85 = .ok (.iastore, 1) := by decide +kernel
theorem D122_86 : decode prog_1_method_49_code 86 = .ok (.iload_n 3, 1) := by decide +kernel
theorem D122_87 : decode prog_1_method_49_code 87 = .ok (.iconst 1, 1) := by decide +kernel
theorem D122_88 : decode prog_1_method_49_code 88 = .ok (.iload 4, 2) := by decide +kernel
theorem D122_90 : decode prog_1_method_49_code 90 = .ok (.ishl, 1) := by decide +kernel
theorem D122_91 : decode prog_1_method_49_code 91 = .ok (.ior, 1) := by decide +kernel
theorem D122_92 : decode prog_1_method_49_code 92 = .ok (.istore_n 3, 1) := by decide +kernel
theorem D122_93 : decode prog_1_method_49_code 93 = .ok (.iinc 4 1, 3) := by decide +kernel
theorem D122_96 : decode prog_1_method_49_code 96 = .ok (.goto (-65), 3) := by decide +kernel
theorem D122_99 : decode prog_1_method_49_code 99 = .ok (.iconst 1, 1) := by decide +kernel
theorem D122_100 : decode prog_1_method_49_code 100 = .ok (.istore 4, 2) := by decide +kernel
theorem D122_102 : decode prog_1_method_49_code 102 = .ok (.iconst 2, 1) := by decide +kernel
theorem D122_103 : decode prog_1_method_49_code 103 = .ok (.istore 5, 2) := by decide +kernel
theorem D122_105 : decode prog_1_method_49_code 105 = .ok (.iload 5, 2) := by decide +kernel
theorem D122_107 : decode prog_1_method_49_code 107 = .ok (.bipush 99, 2) := by decide +kernel
theorem D122_109 : decode prog_1_method_49_code 109 = .ok (.if_icmp .gt 30, 3) := by decide +kernel
theorem D122_112 : decode prog_1_method_49_code 112 = .ok (.aload_n 0, 1) := by decide +kernel
theorem D122_113 : decode prog_1_method_49_code 113 = .ok (.iload_n 3, 1) := by decide +kernel
theorem D122_114 : decode prog_1_method_49_code 114 = .ok (.iload 5, 2) := by decide +kernel
theorem D122_116 : decode prog_1_method_49_code 116 = .ok (.invokevirtual 352, 3) := by decide +kernel
theorem D122_119 : decode prog_1_method_49_code 119 = .ok (.aload_n 0, 1) := by decide +kernel
theorem D122_120 : decode prog_1_method_49_code 120 = .ok (.iload_n 3, 1) := by decide +kernel
theorem D122_121 : decode prog_1_method_49_code 121 = .ok (.iload 4, 2) := by decide +kernel
theorem D122_123 : decode prog_1_method_49_code 123 = .ok (.invokevirtual 352, 3) := by decide +kernel
theorem D122_126 : decode prog_1_method_49_code 126 = .ok (.if_icmp .ge 7, 3) := by decide +kernel
theorem D122_129 : decode prog_1_method_49_code 129 = .ok (.iload 5, 2) := by decide +kernel
theorem D122_131 : decode prog_1_method_49_code 131 = .ok (.istore 4, 2) := by decide +kernel
theorem D122_133 : decode prog_1_method_49_code 133 = .ok (.iinc 5 1, 3) := by decide +kernel
theorem D122_136 : decode prog_1_method_49_code 136 = .ok (.goto (-31), 3) := by decide +kernel
theorem D122_139 : decode prog_1_method_49_code 139 = .ok (.iload_n 2, 1) := by decide +kernel
theorem D122_140 : decode prog_1_method_49_code 140 = .ok (.ifCond .ne 8, 3) := by decide +kernel
theorem D122_143 : decode prog_1_method_49_code 143 = .ok (.iload 4, 2) := by decide +kernel
theorem D122_145 : decode prog_1_method_49_code 145 = .ok (.goto 10, 3) := by decide +kernel
theorem D122_148 : decode prog_1_method_49_code 148 = .ok (.aload_n 0, 1) := by decide +kernel
theorem D122_149 : decode prog_1_method_49_code 149 = .ok (.iload_n 3, 1) := by decide +kernel
theorem D122_150 : decode prog_1_method_49_code 150 = .ok (.iload 4, 2) := by decide +kernel
theorem D122_152 : decode prog_1_method_49_code 152 = .ok (.invokevirtual 352, 3) := by decide +kernel
theorem D122_155 : decode prog_1_method_49_code 155 = .ok (.ireturn, 1) := by decide +kernel

theorem b122_0 {d : Nat} {i1 : Int32} {i2 : Int32} {ia : Nat → Nat → Int32} {la : Nat → Nat → Int64} {pl dr : Nat} {cp : Option Nat} {cw : Option Nat} {rp : Option Nat} {K : Option Value → zHP → Prop}  : zWP (d + 1) 122 0 [some (.ref 0), some (.int i1), some (.int i2), none, none, none] [] (ia, la, zRA pl dr cp cw rp) K = zWM d 80 [.ref 0, .int i1] (ia, la, zRA pl dr cp cw rp) (zK (d + 1) 122 5 [some (.ref 0), some (.int i1), some (.int i2), none, none, none] [] K) := by
  refine (Q_aload_n zm_122 (Or.inl (by decide)) D122_0 rfl).trans ?_
  refine (Q_iload_n zm_122 (Or.inl (by decide)) D122_1 rfl).trans ?_
  exact Q_callv (as := [.int i1]) (b := 0) (rest := []) zm_122 (Or.inl (by decide)) D122_2 zc_9_122 rfl zk_0.1 (by decide) (by decide +kernel) (by decide) (by simp [zcat, Value.category]) zm_80 rfl

theorem b122_5 {d : Nat} {i1 : Int32} {i2 : Int32} {s0 : Int32} {ia : Nat → Nat → Int32} {la : Nat → Nat → Int64} {pl dr : Nat} {cp : Option Nat} {cw : Option Nat} {rp : Option Nat} {K : Option Value → zHP → Prop}  : zWP (d + 1) 122 5 [some (.ref 0), some (.int i1), some (.int i2), none, none, none] [.int s0] (ia, la, zRA pl dr cp cw rp) K = (if s0 = 0 then K (some (.int (-1 : Int32))) (ia, la, zRA pl dr cp cw rp) else (if i2 < 0 then K (some (.int (-1 : Int32))) (ia, la, zRA pl dr cp cw rp) else (if i2 ≤ (1 : Int32) then zWM d 48 [.ref 106] (ia, la, zRA pl dr cp cw rp) (zK (d + 1) 122 26 [some (.ref 0), some (.int i1), some (.int i2), none, none, none] [] K) else K (some (.int (-1 : Int32))) (ia, la, zRA pl dr cp cw rp)))) := by
  refine (Q_if_eq (tgt := 17) zm_122 (Or.inl (by decide)) D122_5 (by decide)).trans ?_
  refine zif_c (fun h0_ => ?_) (fun h0_ => ?_)
  · refine (Q_iconst (v := -1) zm_122 (Or.inl (by decide)) D122_17 (by decide)).trans ?_
    exact Q_ireturn zm_122 (Or.inl (by decide)) D122_18 rfl
  · refine (Q_iload_n zm_122 (Or.inl (by decide)) D122_8 rfl).trans ?_
    refine (Q_if_lt (tgt := 17) zm_122 (Or.inl (by decide)) D122_9 (by decide)).trans ?_
    refine zif_c (fun h1_ => ?_) (fun h1_ => ?_)
    · refine (Q_iconst (v := -1) zm_122 (Or.inl (by decide)) D122_17 (by decide)).trans ?_
      exact Q_ireturn zm_122 (Or.inl (by decide)) D122_18 rfl
    · refine (Q_iload_n zm_122 (Or.inl (by decide)) D122_12 rfl).trans ?_
      refine (Q_iconst (v := 1) zm_122 (Or.inl (by decide)) D122_13 (by decide)).trans ?_
      refine (Q_ic_le (tgt := 19) zm_122 (Or.inl (by decide)) D122_14 (by decide)).trans ?_
      refine zif_c (fun h2_ => ?_) (fun h2_ => ?_)
      · refine (Q_aload_n zm_122 (Or.inl (by decide)) D122_19 rfl).trans ?_
        refine (Q_getR (q := 106) zm_122 (Or.inl (by decide)) D122_20 zf_9_51 zs_9_8 zk_0.1 rfl).trans ?_
        exact Q_callv (as := []) (b := 106) (rest := []) zm_122 (Or.inl (by decide)) D122_23 zc_9_333 rfl zk_106.1 (by decide) (by decide +kernel) (by decide) (by simp [zcat, Value.category]) zm_48 rfl
      · refine (Q_iconst (v := -1) zm_122 (Or.inl (by decide)) D122_17 (by decide)).trans ?_
        exact Q_ireturn zm_122 (Or.inl (by decide)) D122_18 rfl

theorem b122_26 {d : Nat} {i1 : Int32} {i2 : Int32} {ia : Nat → Nat → Int32} {la : Nat → Nat → Int64} {pl dr : Nat} {cp : Option Nat} {cw : Option Nat} {rp : Option Nat} {K : Option Value → zHP → Prop}  : zWP d 122 26 [some (.ref 0), some (.int i1), some (.int i2), none, none, none] [] (ia, la, zRA pl dr cp cw rp) K = zWP d 122 31 [some (.ref 0), some (.int i1), some (.int i2), some (.int (0 : Int32)), some (.int (0 : Int32)), none] [] (ia, la, zRA pl dr cp cw rp) K := by
  refine (Q_iconst (v := 0) zm_122 (Or.inl (by decide)) D122_26 (by decide)).trans ?_
  refine (Q_istore_n (ls' := [some (.ref 0), some (.int i1), some (.int i2), some (.int (0 : Int32)), none, none]) zm_122 (Or.inl (by decide)) D122_27 rfl (Nat.le_of_ble_eq_true rfl) rfl).trans ?_
  refine (Q_iconst (v := 0) zm_122 (Or.inl (by decide)) D122_28 (by decide)).trans ?_
  refine (Q_istore (ls' := [some (.ref 0), some (.int i1), some (.int i2), some (.int (0 : Int32)), some (.int (0 : Int32)), none]) zm_122 (Or.inl (by decide)) D122_29 rfl (Nat.le_of_ble_eq_true rfl) rfl).trans ?_
  rfl

theorem b122_31 {d : Nat} {i1 : Int32} {i2 : Int32} {i3 : Int32} {i4 : Int32} {ia : Nat → Nat → Int32} {la : Nat → Nat → Int64} {pl dr : Nat} {cp : Option Nat} {cw : Option Nat} {rp : Option Nat} {K : Option Value → zHP → Prop}  : zWP (d + 1) 122 31 [some (.ref 0), some (.int i1), some (.int i2), some (.int i3), some (.int i4), none] [] (ia, la, zRA pl dr cp cw rp) K = (if (11 : Int32) ≤ i4 then zWP (d + 1) 122 105 [some (.ref 0), some (.int i1), some (.int i2), some (.int i3), some (.int (1 : Int32)), some (.int (2 : Int32))] [] (ia, la, zRA pl dr cp cw rp) K else zWM d 121 [.ref 0, .int i4] (ia, la, zRA pl dr cp cw rp) (zK (d + 1) 122 44 [some (.ref 0), some (.int i1), some (.int i2), some (.int i3), some (.int i4), none] [] K)) := by
  refine (Q_iload zm_122 (Or.inl (by decide)) D122_31 rfl).trans ?_
  refine (Q_bipush (v := 11) zm_122 (Or.inl (by decide)) D122_33 (by decide)).trans ?_
  refine (Q_ic_ge (tgt := 99) zm_122 (Or.inl (by decide)) D122_35 (by decide)).trans ?_
  refine zif_c (fun h0_ => ?_) (fun h0_ => ?_)
  · refine (Q_iconst (v := 1) zm_122 (Or.inl (by decide)) D122_99 (by decide)).trans ?_
    refine (Q_istore (ls' := [some (.ref 0), some (.int i1), some (.int i2), some (.int i3), some (.int (1 : Int32)), none]) zm_122 (Or.inl (by decide)) D122_100 rfl (Nat.le_of_ble_eq_true rfl) rfl).trans ?_
    refine (Q_iconst (v := 2) zm_122 (Or.inl (by decide)) D122_102 (by decide)).trans ?_
    refine (Q_istore (ls' := [some (.ref 0), some (.int i1), some (.int i2), some (.int i3), some (.int (1 : Int32)), some (.int (2 : Int32))]) zm_122 (Or.inl (by decide)) D122_103 rfl (Nat.le_of_ble_eq_true rfl) rfl).trans ?_
    rfl
  · refine (Q_aload_n zm_122 (Or.inl (by decide)) D122_38 rfl).trans ?_
    refine (Q_iload zm_122 (Or.inl (by decide)) D122_39 rfl).trans ?_
    exact Q_callv (as := [.int i4]) (b := 0) (rest := []) zm_122 (Or.inl (by decide)) D122_41 zc_9_336 rfl zk_0.1 (by decide) (by decide +kernel) (by decide) (by simp [zcat, Value.category]) zm_121 rfl

theorem b122_105 {d : Nat} {i1 : Int32} {i2 : Int32} {i3 : Int32} {i4 : Int32} {i5 : Int32} {ia : Nat → Nat → Int32} {la : Nat → Nat → Int64} {pl dr : Nat} {cp : Option Nat} {cw : Option Nat} {rp : Option Nat} {K : Option Value → zHP → Prop}  : zWP (d + 1) 122 105 [some (.ref 0), some (.int i1), some (.int i2), some (.int i3), some (.int i4), some (.int i5)] [] (ia, la, zRA pl dr cp cw rp) K = (if (99 : Int32) < i5 then (if ¬ i2 = 0 then zWM d 123 [.ref 0, .int i3, .int i4] (ia, la, zRA pl dr cp cw rp) (zK (d + 1) 122 155 [some (.ref 0), some (.int i1), some (.int i2), some (.int i3), some (.int i4), some (.int i5)] [] K) else K (some (.int i4)) (ia, la, zRA pl dr cp cw rp)) else zWM d 123 [.ref 0, .int i3, .int i5] (ia, la, zRA pl dr cp cw rp) (zK (d + 1) 122 119 [some (.ref 0), some (.int i1), some (.int i2), some (.int i3), some (.int i4), some (.int i5)] [] K)) := by
  refine (Q_iload zm_122 (Or.inl (by decide)) D122_105 rfl).trans ?_
  refine (Q_bipush (v := 99) zm_122 (Or.inl (by decide)) D122_107 (by decide)).trans ?_
  refine (Q_ic_gt (tgt := 139) zm_122 (Or.inl (by decide)) D122_109 (by decide)).trans ?_
  refine zif_c (fun h0_ => ?_) (fun h0_ => ?_)
  · refine (Q_iload_n zm_122 (Or.inl (by decide)) D122_139 rfl).trans ?_
    refine (Q_if_ne (tgt := 148) zm_122 (Or.inl (by decide)) D122_140 (by decide)).trans ?_
    refine zif_c (fun h1_ => ?_) (fun h1_ => ?_)
    · refine (Q_aload_n zm_122 (Or.inl (by decide)) D122_148 rfl).trans ?_
      refine (Q_iload_n zm_122 (Or.inl (by decide)) D122_149 rfl).trans ?_
      refine (Q_iload zm_122 (Or.inl (by decide)) D122_150 rfl).trans ?_
      exact Q_callv (as := [.int i3, .int i4]) (b := 0) (rest := []) zm_122 (Or.inl (by decide)) D122_152 zc_9_352 rfl zk_0.1 (by decide) (by decide +kernel) (by decide) (by simp [zcat, Value.category]) zm_123 rfl
    · refine (Q_iload zm_122 (Or.inl (by decide)) D122_143 rfl).trans ?_
      refine (Q_goto (tgt := 155) zm_122 (Or.inl (by decide)) D122_145 (by decide)).trans ?_
      exact Q_ireturn zm_122 (Or.inl (by decide)) D122_155 rfl
  · refine (Q_aload_n zm_122 (Or.inl (by decide)) D122_112 rfl).trans ?_
    refine (Q_iload_n zm_122 (Or.inl (by decide)) D122_113 rfl).trans ?_
    refine (Q_iload zm_122 (Or.inl (by decide)) D122_114 rfl).trans ?_
    exact Q_callv (as := [.int i3, .int i5]) (b := 0) (rest := []) zm_122 (Or.inl (by decide)) D122_116 zc_9_352 rfl zk_0.1 (by decide) (by decide +kernel) (by decide) (by simp [zcat, Value.category]) zm_123 rfl

theorem b122_44 {d : Nat} {i1 : Int32} {i2 : Int32} {i3 : Int32} {i4 : Int32} {s0 : Int32} {ia : Nat → Nat → Int32} {la : Nat → Nat → Int64} {pl dr : Nat} {cp : Option Nat} {cw : Option Nat} {rp : Option Nat} {K : Option Value → zHP → Prop}  : zWP (d + 1) 122 44 [some (.ref 0), some (.int i1), some (.int i2), some (.int i3), some (.int i4), none] [.int s0] (ia, la, zRA pl dr cp cw rp) K = (if s0 = 0 then zWP (d + 1) 122 31 [some (.ref 0), some (.int i1), some (.int i2), some (.int i3), some (.int (i4 + (1 : Int32))), none] [] (ia, la, zRA pl dr cp cw rp) K else zWM d 1 [.ref 102, .int ((60 : Int32) - (ia 106 1))] (ia, la, zRA pl dr cp cw rp) (zK (d + 1) 122 64 [some (.ref 0), some (.int i1), some (.int i2), some (.int i3), some (.int i4), none] [] K)) := by
  refine (Q_if_eq (tgt := 93) zm_122 (Or.inl (by decide)) D122_44 (by decide)).trans ?_
  refine zif_c (fun h0_ => ?_) (fun h0_ => ?_)
  · refine (Q_iinc (v := 1) (ls' := [some (.ref 0), some (.int i1), some (.int i2), some (.int i3), some (.int (i4 + (1 : Int32))), none]) zm_122 (Or.inl (by decide)) D122_93 rfl rfl (by decide) rfl).trans ?_
    refine (Q_goto (tgt := 31) zm_122 (Or.inl (by decide)) D122_96 (by decide)).trans ?_
    rfl
  · refine (Q_aload_n zm_122 (Or.inl (by decide)) D122_47 rfl).trans ?_
    refine (Q_getR (q := 102) zm_122 (Or.inl (by decide)) D122_48 zf_9_44 zs_9_7 zk_0.1 rfl).trans ?_
    refine (Q_bipush (v := 60) zm_122 (Or.inl (by decide)) D122_51 (by decide)).trans ?_
    refine (Q_aload_n zm_122 (Or.inl (by decide)) D122_53 rfl).trans ?_
    refine (Q_getR (q := 106) zm_122 (Or.inl (by decide)) D122_54 zf_9_51 zs_9_8 zk_0.1 rfl).trans ?_
    refine (Q_getI zm_122 (Or.inl (by decide)) D122_57 zf_9_342 (Or.inl zs_5_1) zk_106.1).trans ?_
    refine (Q_isub zm_122 (Or.inl (by decide)) D122_60).trans ?_
    exact Q_callv (as := [.int ((60 : Int32) - (ia 106 1))]) (b := 102) (rest := []) zm_122 (Or.inl (by decide)) D122_61 zc_9_227 rfl zk_102.1 (by decide) (by decide +kernel) (by decide) (by simp [zcat, Value.category]) zm_1 rfl

theorem b122_155 {d : Nat} {i1 : Int32} {i2 : Int32} {i3 : Int32} {i4 : Int32} {i5 : Int32} {s0 : Int32} {ia : Nat → Nat → Int32} {la : Nat → Nat → Int64} {pl dr : Nat} {cp : Option Nat} {cw : Option Nat} {rp : Option Nat} {K : Option Value → zHP → Prop}  : zWP d 122 155 [some (.ref 0), some (.int i1), some (.int i2), some (.int i3), some (.int i4), some (.int i5)] [.int s0] (ia, la, zRA pl dr cp cw rp) K = K (some (.int s0)) (ia, la, zRA pl dr cp cw rp) := by
  exact Q_ireturn zm_122 (Or.inl (by decide)) D122_155 rfl

theorem b122_119 {d : Nat} {i1 : Int32} {i2 : Int32} {i3 : Int32} {i4 : Int32} {i5 : Int32} {s0 : Int32} {ia : Nat → Nat → Int32} {la : Nat → Nat → Int64} {pl dr : Nat} {cp : Option Nat} {cw : Option Nat} {rp : Option Nat} {K : Option Value → zHP → Prop}  : zWP (d + 1) 122 119 [some (.ref 0), some (.int i1), some (.int i2), some (.int i3), some (.int i4), some (.int i5)] [.int s0] (ia, la, zRA pl dr cp cw rp) K = zWM d 123 [.ref 0, .int i3, .int i4] (ia, la, zRA pl dr cp cw rp) (zK (d + 1) 122 126 [some (.ref 0), some (.int i1), some (.int i2), some (.int i3), some (.int i4), some (.int i5)] [.int s0] K) := by
  refine (Q_aload_n zm_122 (Or.inl (by decide)) D122_119 rfl).trans ?_
  refine (Q_iload_n zm_122 (Or.inl (by decide)) D122_120 rfl).trans ?_
  refine (Q_iload zm_122 (Or.inl (by decide)) D122_121 rfl).trans ?_
  exact Q_callv (as := [.int i3, .int i4]) (b := 0) (rest := [.int s0]) zm_122 (Or.inl (by decide)) D122_123 zc_9_352 rfl zk_0.1 (by decide) (by decide +kernel) (by decide) (by simp [zcat, Value.category]) zm_123 rfl

theorem b122_64 {d : Nat} {i1 : Int32} {i2 : Int32} {i3 : Int32} {i4 : Int32} {ia : Nat → Nat → Int32} {la : Nat → Nat → Int64} {pl dr : Nat} {cp : Option Nat} {cw : Option Nat} {rp : Option Nat} {K : Option Value → zHP → Prop}  : zWP d 122 64 [some (.ref 0), some (.int i1), some (.int i2), some (.int i3), some (.int i4), none] [] (ia, la, zRA pl dr cp cw rp) K = (vp_in (i1 * (3 : Int32)) 18 ∧ (vp_in i4 11 ∧ zWP d 122 31 [some (.ref 0), some (.int i1), some (.int i2), some (.int (i3 ||| ((1 : Int32) <<< (i4 &&& 31)))), some (.int (i4 + (1 : Int32))), none] [] ((zu ia 126 (i4).toNatClampNeg ((ia 94 ((i1 * (3 : Int32))).toNatClampNeg) / (1000 : Int32))), la, zRA pl dr cp cw rp) K)) := by
  refine (Q_aload_n zm_122 (Or.inl (by decide)) D122_64 rfl).trans ?_
  refine (Q_getR (q := 126) zm_122 (Or.inl (by decide)) D122_65 zf_9_69 zs_9_11 zk_0.1 rfl).trans ?_
  refine (Q_iload zm_122 (Or.inl (by decide)) D122_68 rfl).trans ?_
  refine (Q_aload_n zm_122 (Or.inl (by decide)) D122_70 rfl).trans ?_
  refine (Q_getR (q := 92) zm_122 (Or.inl (by decide)) D122_71 zf_9_38 zs_9_5 zk_0.1 rfl).trans ?_
  refine (Q_getR (q := 94) zm_122 (Or.inl (by decide)) D122_74 zf_9_129 zs_8_3 zk_92.1 rfl).trans ?_
  refine (Q_iload_n zm_122 (Or.inl (by decide)) D122_77 rfl).trans ?_
  refine (Q_iconst (v := 3) zm_122 (Or.inl (by decide)) D122_78 (by decide)).trans ?_
  refine (Q_imul zm_122 (Or.inl (by decide)) D122_79).trans ?_
  refine (Q_iaload zm_122 (Or.inl (by decide)) D122_80 zk_94.1 zk_94.2).trans ?_
  refine zand_c (fun h0_ => ?_)
  refine (Q_sipush (v := 1000) zm_122 (Or.inl (by decide)) D122_81 (by decide)).trans ?_
  refine (Q_idiv zm_122 (Or.inl (by decide)) D122_84 (by decide)).trans ?_
  refine (Q_iastore zm_122 (Or.inl (by decide)) D122_85 zk_126.1 zk_126.2).trans ?_
  refine zand_c (fun h1_ => ?_)
  refine (Q_iload_n zm_122 (Or.inl (by decide)) D122_86 rfl).trans ?_
  refine (Q_iconst (v := 1) zm_122 (Or.inl (by decide)) D122_87 (by decide)).trans ?_
  refine (Q_iload zm_122 (Or.inl (by decide)) D122_88 rfl).trans ?_
  refine (Q_ishl zm_122 (Or.inl (by decide)) D122_90).trans ?_
  refine (Q_ior zm_122 (Or.inl (by decide)) D122_91).trans ?_
  refine (Q_istore_n (ls' := [some (.ref 0), some (.int i1), some (.int i2), some (.int (i3 ||| ((1 : Int32) <<< (i4 &&& 31)))), some (.int i4), none]) zm_122 (Or.inl (by decide)) D122_92 rfl (Nat.le_of_ble_eq_true rfl) rfl).trans ?_
  refine (Q_iinc (v := 1) (ls' := [some (.ref 0), some (.int i1), some (.int i2), some (.int (i3 ||| ((1 : Int32) <<< (i4 &&& 31)))), some (.int (i4 + (1 : Int32))), none]) zm_122 (Or.inl (by decide)) D122_93 rfl rfl (by decide) rfl).trans ?_
  refine (Q_goto (tgt := 31) zm_122 (Or.inl (by decide)) D122_96 (by decide)).trans ?_
  rfl

theorem b122_126 {d : Nat} {i1 : Int32} {i2 : Int32} {i3 : Int32} {i4 : Int32} {i5 : Int32} {s0 : Int32} {s1 : Int32} {ia : Nat → Nat → Int32} {la : Nat → Nat → Int64} {pl dr : Nat} {cp : Option Nat} {cw : Option Nat} {rp : Option Nat} {K : Option Value → zHP → Prop}  : zWP d 122 126 [some (.ref 0), some (.int i1), some (.int i2), some (.int i3), some (.int i4), some (.int i5)] [.int s1, .int s0] (ia, la, zRA pl dr cp cw rp) K = (if s1 ≤ s0 then zWP d 122 105 [some (.ref 0), some (.int i1), some (.int i2), some (.int i3), some (.int i4), some (.int (i5 + (1 : Int32)))] [] (ia, la, zRA pl dr cp cw rp) K else zWP d 122 105 [some (.ref 0), some (.int i1), some (.int i2), some (.int i3), some (.int i5), some (.int (i5 + (1 : Int32)))] [] (ia, la, zRA pl dr cp cw rp) K) := by
  refine (Q_ic_ge (tgt := 133) zm_122 (Or.inl (by decide)) D122_126 (by decide)).trans ?_
  refine zif_c (fun h0_ => ?_) (fun h0_ => ?_)
  · refine (Q_iinc (v := 1) (ls' := [some (.ref 0), some (.int i1), some (.int i2), some (.int i3), some (.int i4), some (.int (i5 + (1 : Int32)))]) zm_122 (Or.inl (by decide)) D122_133 rfl rfl (by decide) rfl).trans ?_
    refine (Q_goto (tgt := 105) zm_122 (Or.inl (by decide)) D122_136 (by decide)).trans ?_
    rfl
  · refine (Q_iload zm_122 (Or.inl (by decide)) D122_129 rfl).trans ?_
    refine (Q_istore (ls' := [some (.ref 0), some (.int i1), some (.int i2), some (.int i3), some (.int i5), some (.int i5)]) zm_122 (Or.inl (by decide)) D122_131 rfl (Nat.le_of_ble_eq_true rfl) rfl).trans ?_
    refine (Q_iinc (v := 1) (ls' := [some (.ref 0), some (.int i1), some (.int i2), some (.int i3), some (.int i5), some (.int (i5 + (1 : Int32)))]) zm_122 (Or.inl (by decide)) D122_133 rfl rfl (by decide) rfl).trans ?_
    refine (Q_goto (tgt := 105) zm_122 (Or.inl (by decide)) D122_136 (by decide)).trans ?_
    rfl

/-! HandsLet.leftAtWorst(II)I -/
theorem D123_0 : decode prog_1_method_50_code 0 = .ok (.iconst 0, 1) := by decide +kernel
theorem D123_1 : decode prog_1_method_50_code 1 = .ok (.istore_n 3, 1) := by decide +kernel
theorem D123_2 : decode prog_1_method_50_code 2 = .ok (.iconst 0, 1) := by decide +kernel
theorem D123_3 : decode prog_1_method_50_code 3 = .ok (.istore 4, 2) := by decide +kernel
theorem D123_5 : decode prog_1_method_50_code 5 = .ok (.iload 4, 2) := by decide +kernel
theorem D123_7 : decode prog_1_method_50_code 7 = .ok (.bipush 11, 2) := by decide +kernel
theorem D123_9 : decode prog_1_method_50_code 9 = .ok (.if_icmp .ge 32, 3) := by decide +kernel
theorem D123_12 : decode prog_1_method_50_code 12 = .ok (.iload_n 1, 1) := by decide +kernel
theorem D123_13 : decode prog_1_method_50_code 13 = .ok (.iload 4, 2) := by decide +kernel
theorem D123_15 : decode prog_1_method_50_code 15 = .ok (.ishr, 1) := by decide +kernel
theorem D123_16 : decode prog_1_method_50_code 16 = .ok (.iconst 1, 1) := by decide +kernel
theorem D123_17 : decode prog_1_method_50_code 17 = .ok (.iand, 1) := by decide +kernel
theorem D123_18 : decode prog_1_method_50_code 18 = .ok (.ifCond .eq 17, 3) := by decide +kernel
theorem D123_21 : decode prog_1_method_50_code 21 = .ok (.aload_n 0, 1) := by decide +kernel
theorem D123_22 : decode prog_1_method_50_code 22 = .ok (.getfield 69, 3) := by decide +kernel
theorem D123_25 : decode prog_1_method_50_code 25 = .ok (.iload 4, 2) := by decide +kernel
theorem D123_27 : decode prog_1_method_50_code 27 = .ok (.iaload, 1) := by decide +kernel
theorem D123_28 : decode prog_1_method_50_code 28 = .ok (.iload_n 2, 1) := by decide +kernel
theorem D123_29 : decode prog_1_method_50_code 29 = .ok (.if_icmp .lt 6, 3) := by decide +kernel
theorem D123_32 : decode prog_1_method_50_code 32 = .ok (.iinc 3 1, 3) := by decide +kernel
theorem D123_35 : decode prog_1_method_50_code 35 = .ok (.iinc 4 1, 3) := by decide +kernel
theorem D123_38 : decode prog_1_method_50_code 38 = .ok (.goto (-33), 3) := by decide +kernel
theorem D123_41 : decode prog_1_method_50_code 41 = .ok (.iload_n 3, 1) := by decide +kernel
theorem D123_42 : decode prog_1_method_50_code 42 = .ok (.iload_n 1, 1) := by decide +kernel
theorem D123_43 : decode prog_1_method_50_code 43 = .ok (.invokestatic 355, 3) := by decide +kernel
theorem D123_46 : decode prog_1_method_50_code 46 = .ok (.iload_n 3, 1) := by decide +kernel
theorem D123_47 : decode prog_1_method_50_code 47 = .ok (.isub, 1) := by decide +kernel
theorem D123_48 : decode prog_1_method_50_code 48 = .ok (.invokestatic 278, 3) := by decide +kernel
theorem D123_51 : decode prog_1_method_50_code 51 = .ok (.ireturn, 1) := by decide +kernel

theorem b123_0 {d : Nat} {i1 : Int32} {i2 : Int32} {ia : Nat → Nat → Int32} {la : Nat → Nat → Int64} {pl dr : Nat} {cp : Option Nat} {cw : Option Nat} {rp : Option Nat} {K : Option Value → zHP → Prop}  : zWP d 123 0 [some (.ref 0), some (.int i1), some (.int i2), none, none] [] (ia, la, zRA pl dr cp cw rp) K = zWP d 123 5 [some (.ref 0), some (.int i1), some (.int i2), some (.int (0 : Int32)), some (.int (0 : Int32))] [] (ia, la, zRA pl dr cp cw rp) K := by
  refine (Q_iconst (v := 0) zm_123 (Or.inl (by decide)) D123_0 (by decide)).trans ?_
  refine (Q_istore_n (ls' := [some (.ref 0), some (.int i1), some (.int i2), some (.int (0 : Int32)), none]) zm_123 (Or.inl (by decide)) D123_1 rfl (Nat.le_of_ble_eq_true rfl) rfl).trans ?_
  refine (Q_iconst (v := 0) zm_123 (Or.inl (by decide)) D123_2 (by decide)).trans ?_
  refine (Q_istore (ls' := [some (.ref 0), some (.int i1), some (.int i2), some (.int (0 : Int32)), some (.int (0 : Int32))]) zm_123 (Or.inl (by decide)) D123_3 rfl (Nat.le_of_ble_eq_true rfl) rfl).trans ?_
  rfl

theorem b123_5 {d : Nat} {i1 : Int32} {i2 : Int32} {i3 : Int32} {i4 : Int32} {ia : Nat → Nat → Int32} {la : Nat → Nat → Int64} {pl dr : Nat} {cp : Option Nat} {cw : Option Nat} {rp : Option Nat} {K : Option Value → zHP → Prop}  : zWP (d + 1) 123 5 [some (.ref 0), some (.int i1), some (.int i2), some (.int i3), some (.int i4)] [] (ia, la, zRA pl dr cp cw rp) K = (if (11 : Int32) ≤ i4 then zWM d 240 [.int i1] (ia, la, zRA pl dr cp cw rp) (zK (d + 1) 123 46 [some (.ref 0), some (.int i1), some (.int i2), some (.int i3), some (.int i4)] [.int i3] K) else (if ((i1 >>> (i4 &&& 31)) &&& (1 : Int32)) = 0 then zWP (d + 1) 123 5 [some (.ref 0), some (.int i1), some (.int i2), some (.int i3), some (.int (i4 + (1 : Int32)))] [] (ia, la, zRA pl dr cp cw rp) K else (vp_in i4 11 ∧ (if (ia 126 (i4).toNatClampNeg) < i2 then zWP (d + 1) 123 5 [some (.ref 0), some (.int i1), some (.int i2), some (.int i3), some (.int (i4 + (1 : Int32)))] [] (ia, la, zRA pl dr cp cw rp) K else zWP (d + 1) 123 5 [some (.ref 0), some (.int i1), some (.int i2), some (.int (i3 + (1 : Int32))), some (.int (i4 + (1 : Int32)))] [] (ia, la, zRA pl dr cp cw rp) K)))) := by
  refine (Q_iload zm_123 (Or.inl (by decide)) D123_5 rfl).trans ?_
  refine (Q_bipush (v := 11) zm_123 (Or.inl (by decide)) D123_7 (by decide)).trans ?_
  refine (Q_ic_ge (tgt := 41) zm_123 (Or.inl (by decide)) D123_9 (by decide)).trans ?_
  refine zif_c (fun h0_ => ?_) (fun h0_ => ?_)
  · refine (Q_iload_n zm_123 (Or.inl (by decide)) D123_41 rfl).trans ?_
    refine (Q_iload_n zm_123 (Or.inl (by decide)) D123_42 rfl).trans ?_
    exact Q_calls (as := [.int i1]) (rest := [.int i3]) zm_123 (Or.inl (by decide)) D123_43 zc_9_355 rfl (by decide) (by simp [zcat, Value.category]) zm_240 rfl
  · refine (Q_iload_n zm_123 (Or.inl (by decide)) D123_12 rfl).trans ?_
    refine (Q_iload zm_123 (Or.inl (by decide)) D123_13 rfl).trans ?_
    refine (Q_ishr zm_123 (Or.inl (by decide)) D123_15).trans ?_
    refine (Q_iconst (v := 1) zm_123 (Or.inl (by decide)) D123_16 (by decide)).trans ?_
    refine (Q_iand zm_123 (Or.inl (by decide)) D123_17).trans ?_
    refine (Q_if_eq (tgt := 35) zm_123 (Or.inl (by decide)) D123_18 (by decide)).trans ?_
    refine zif_c (fun h1_ => ?_) (fun h1_ => ?_)
    · refine (Q_iinc (v := 1) (ls' := [some (.ref 0), some (.int i1), some (.int i2), some (.int i3), some (.int (i4 + (1 : Int32)))]) zm_123 (Or.inl (by decide)) D123_35 rfl rfl (by decide) rfl).trans ?_
      refine (Q_goto (tgt := 5) zm_123 (Or.inl (by decide)) D123_38 (by decide)).trans ?_
      rfl
    · refine (Q_aload_n zm_123 (Or.inl (by decide)) D123_21 rfl).trans ?_
      refine (Q_getR (q := 126) zm_123 (Or.inl (by decide)) D123_22 zf_9_69 zs_9_11 zk_0.1 rfl).trans ?_
      refine (Q_iload zm_123 (Or.inl (by decide)) D123_25 rfl).trans ?_
      refine (Q_iaload zm_123 (Or.inl (by decide)) D123_27 zk_126.1 zk_126.2).trans ?_
      refine zand_c (fun h2_ => ?_)
      refine (Q_iload_n zm_123 (Or.inl (by decide)) D123_28 rfl).trans ?_
      refine (Q_ic_lt (tgt := 35) zm_123 (Or.inl (by decide)) D123_29 (by decide)).trans ?_
      refine zif_c (fun h3_ => ?_) (fun h3_ => ?_)
      · refine (Q_iinc (v := 1) (ls' := [some (.ref 0), some (.int i1), some (.int i2), some (.int i3), some (.int (i4 + (1 : Int32)))]) zm_123 (Or.inl (by decide)) D123_35 rfl rfl (by decide) rfl).trans ?_
        refine (Q_goto (tgt := 5) zm_123 (Or.inl (by decide)) D123_38 (by decide)).trans ?_
        rfl
      · refine (Q_iinc (v := 1) (ls' := [some (.ref 0), some (.int i1), some (.int i2), some (.int (i3 + (1 : Int32))), some (.int i4)]) zm_123 (Or.inl (by decide)) D123_32 rfl rfl (by decide) rfl).trans ?_
        refine (Q_iinc (v := 1) (ls' := [some (.ref 0), some (.int i1), some (.int i2), some (.int (i3 + (1 : Int32))), some (.int (i4 + (1 : Int32)))]) zm_123 (Or.inl (by decide)) D123_35 rfl rfl (by decide) rfl).trans ?_
        refine (Q_goto (tgt := 5) zm_123 (Or.inl (by decide)) D123_38 (by decide)).trans ?_
        rfl

theorem b123_46 {d : Nat} {i1 : Int32} {i2 : Int32} {i3 : Int32} {i4 : Int32} {s0 : Int32} {s1 : Int32} {ia : Nat → Nat → Int32} {la : Nat → Nat → Int64} {pl dr : Nat} {cp : Option Nat} {cw : Option Nat} {rp : Option Nat} {K : Option Value → zHP → Prop}  : zWP (d + 5) 123 46 [some (.ref 0), some (.int i1), some (.int i2), some (.int i3), some (.int i4)] [.int s1, .int s0] (ia, la, zRA pl dr cp cw rp) K = K (some (.int (if s0 < (s1 - i3) then (s1 - i3) else s0))) (ia, la, zRA pl dr cp cw rp) := by
  refine (Q_iload_n zm_123 (Or.inl (by decide)) D123_46 rfl).trans ?_
  refine (Q_isub zm_123 (Or.inl (by decide)) D123_47).trans ?_
  refine (Q_bis (as := [.int s0, .int (s1 - i3)]) (rest := []) zm_123 (Or.inl (by decide)) D123_48 zc_9_278 rfl (by decide) (by simp [zcat, Value.category]) rfl).trans ?_
  exact Q_ireturn zm_123 (Or.inl (by decide)) D123_51 rfl

/-! HandsLet.undo()I -/
theorem D124_0 : decode prog_1_method_51_code 0 = .ok (.aload_n 0, 1) := by decide +kernel
theorem D124_1 : decode prog_1_method_51_code 1 = .ok (.getfield 58, 3) := by decide +kernel
theorem D124_4 : decode prog_1_method_51_code 4 = .ok (.aload_n 0, 1) := by decide +kernel
theorem D124_5 : decode prog_1_method_51_code 5 = .ok (.getfield 31, 3) := by decide +kernel
theorem D124_8 : decode prog_1_method_51_code 8 = .ok (.invokevirtual 360, 3) := by decide +kernel
theorem D124_11 : decode prog_1_method_51_code 11 = .ok (.ireturn, 1) := by decide +kernel

theorem b124_0 {d : Nat}  {ia : Nat → Nat → Int32} {la : Nat → Nat → Int64} {pl dr : Nat} {cp : Option Nat} {cw : Option Nat} {rp : Option Nat} {K : Option Value → zHP → Prop}  : zWP (d + 1) 124 0 [some (.ref 0)] [] (ia, la, zRA pl dr cp cw rp) K = zWM d 13 [.ref 113, .ref 72] (ia, la, zRA pl dr cp cw rp) (zK (d + 1) 124 11 [some (.ref 0)] [] K) := by
  refine (Q_aload_n zm_124 (Or.inl (by decide)) D124_0 rfl).trans ?_
  refine (Q_getR (q := 113) zm_124 (Or.inl (by decide)) D124_1 zf_9_58 zs_9_9 zk_0.1 rfl).trans ?_
  refine (Q_aload_n zm_124 (Or.inl (by decide)) D124_4 rfl).trans ?_
  refine (Q_getR (q := 72) zm_124 (Or.inl (by decide)) D124_5 zf_9_31 zs_9_3 zk_0.1 rfl).trans ?_
  exact Q_callv (as := [.ref 72]) (b := 113) (rest := []) zm_124 (Or.inl (by decide)) D124_8 zc_9_360 rfl zk_113.1 (by decide) (by decide +kernel) (by decide) (by simp [zcat, Value.category]) zm_13 rfl

theorem b124_11 {d : Nat} {s0 : Int32} {ia : Nat → Nat → Int32} {la : Nat → Nat → Int64} {pl dr : Nat} {cp : Option Nat} {cw : Option Nat} {rp : Option Nat} {K : Option Value → zHP → Prop}  : zWP d 124 11 [some (.ref 0)] [.int s0] (ia, la, zRA pl dr cp cw rp) K = K (some (.int s0)) (ia, la, zRA pl dr cp cw rp) := by
  exact Q_ireturn zm_124 (Or.inl (by decide)) D124_11 rfl

/-! HandsLet.keep()I -/
theorem D125_0 : decode prog_1_method_52_code 0 = .ok (.aload_n 0, 1) := by decide +kernel
theorem D125_1 : decode prog_1_method_52_code 1 = .ok (.getfield 35, 3) := by decide +kernel
theorem D125_4 : decode prog_1_method_52_code 4 = .ok (.aload_n 0, 1) := by decide +kernel
theorem D125_5 : decode prog_1_method_52_code 5 = .ok (.getfield 31, 3) := by decide +kernel
theorem D125_8 : decode prog_1_method_52_code 8 = .ok (.invokevirtual 230, 3) := by decide +kernel
theorem D125_11 : decode prog_1_method_52_code 11 = .ok (.aload_n 0, 1) := by decide +kernel
theorem D125_12 : decode prog_1_method_52_code 12 = .ok (.iconst 1, 1) := by decide +kernel
theorem D125_13 : decode prog_1_method_52_code 13 = .ok (.putfield 98, 3) := by decide +kernel
theorem D125_16 : decode prog_1_method_52_code 16 = .ok (.aload_n 0, 1) := by decide +kernel
theorem D125_17 : decode prog_1_method_52_code 17 = .ok (.getfield 31, 3) := by decide +kernel
theorem D125_20 : decode prog_1_method_52_code 20 = .ok (.getfield 224, 3) := by decide +kernel
theorem D125_23 : decode prog_1_method_52_code 23 = .ok (.ireturn, 1) := by decide +kernel

theorem b125_0 {d : Nat}  {ia : Nat → Nat → Int32} {la : Nat → Nat → Int64} {pl dr : Nat} {cp : Option Nat} {cw : Option Nat} {rp : Option Nat} {K : Option Value → zHP → Prop}  : zWP (d + 1) 125 0 [some (.ref 0)] [] (ia, la, zRA pl dr cp cw rp) K = zWM d 68 [.ref 82, .ref 72] (ia, la, zRA pl dr cp cw rp) (zK (d + 1) 125 11 [some (.ref 0)] [] K) := by
  refine (Q_aload_n zm_125 (Or.inl (by decide)) D125_0 rfl).trans ?_
  refine (Q_getR (q := 82) zm_125 (Or.inl (by decide)) D125_1 zf_9_35 zs_9_4 zk_0.1 rfl).trans ?_
  refine (Q_aload_n zm_125 (Or.inl (by decide)) D125_4 rfl).trans ?_
  refine (Q_getR (q := 72) zm_125 (Or.inl (by decide)) D125_5 zf_9_31 zs_9_3 zk_0.1 rfl).trans ?_
  exact Q_callv (as := [.ref 72]) (b := 82) (rest := []) zm_125 (Or.inl (by decide)) D125_8 zc_9_230 rfl zk_82.1 (by decide) (by decide +kernel) (by decide) (by simp [zcat, Value.category]) zm_68 rfl

theorem b125_11 {d : Nat}  {ia : Nat → Nat → Int32} {la : Nat → Nat → Int64} {pl dr : Nat} {cp : Option Nat} {cw : Option Nat} {rp : Option Nat} {K : Option Value → zHP → Prop}  : zWP d 125 11 [some (.ref 0)] [] (ia, la, zRA pl dr cp cw rp) K = K (some (.int ((zu ia 0 6 (1 : Int32)) 72 0))) ((zu ia 0 6 (1 : Int32)), la, zRA pl dr cp cw rp) := by
  refine (Q_aload_n zm_125 (Or.inl (by decide)) D125_11 rfl).trans ?_
  refine (Q_iconst (v := 1) zm_125 (Or.inl (by decide)) D125_12 (by decide)).trans ?_
  refine (Q_putZ zm_125 (Or.inl (by decide)) D125_13 zf_9_98 zs_9_6 rfl zk_0.1 (by decide)).trans ?_
  refine (Q_aload_n zm_125 (Or.inl (by decide)) D125_16 rfl).trans ?_
  refine (Q_getR (q := 72) zm_125 (Or.inl (by decide)) D125_17 zf_9_31 zs_9_3 zk_0.1 rfl).trans ?_
  refine (Q_getI zm_125 (Or.inl (by decide)) D125_20 zf_9_224 (Or.inl zs_8_0) zk_72.1).trans ?_
  exact Q_ireturn zm_125 (Or.inl (by decide)) D125_23 rfl

/-! HandsLet.back()I -/
theorem D126_0 : decode prog_1_method_53_code 0 = .ok (.aload_n 0, 1) := by decide +kernel
theorem D126_1 : decode prog_1_method_53_code 1 = .ok (.getfield 98, 3) := by decide +kernel
theorem D126_4 : decode prog_1_method_53_code 4 = .ok (.ifCond .ne 5, 3) := by decide +kernel
theorem D126_7 : decode prog_1_method_53_code 7 = .ok (.iconst (-1), 1) := by decide +kernel
theorem D126_8 : decode prog_1_method_53_code 8 = .ok (.ireturn, 1) := by decide +kernel
theorem D126_9 : decode prog_1_method_53_code 9 = .ok (.aload_n 0, 1) := by decide +kernel
theorem D126_10 : decode prog_1_method_53_code 10 = .ok (.getfield 31, 3) := by decide +kernel
theorem D126_13 : decode prog_1_method_53_code 13 = .ok (.aload_n 0, 1) := by decide +kernel
theorem D126_14 : decode prog_1_method_53_code 14 = .ok (.getfield 35, 3) := by decide +kernel
theorem D126_17 : decode prog_1_method_53_code 17 = .ok (.invokevirtual 230, 3) := by decide +kernel
theorem D126_20 : decode prog_1_method_53_code 20 = .ok (.aload_n 0, 1) := by decide +kernel
theorem D126_21 : decode prog_1_method_53_code 21 = .ok (.getfield 58, 3) := by decide +kernel
theorem D126_24 : decode prog_1_method_53_code 24 = .ok (.invokevirtual 105, 3) := by decide +kernel
theorem D126_27 : decode prog_1_method_53_code 27 = .ok (.aload_n 0, 1) := by decide +kernel
theorem D126_28 : decode prog_1_method_53_code 28 = .ok (.getfield 31, 3) := by decide +kernel
theorem D126_31 : decode prog_1_method_53_code 31 = .ok (.getfield 224, 3) := by decide +kernel
theorem D126_34 : decode prog_1_method_53_code 34 = .ok (.ireturn, 1) := by decide +kernel

theorem b126_0 {d : Nat}  {ia : Nat → Nat → Int32} {la : Nat → Nat → Int64} {pl dr : Nat} {cp : Option Nat} {cw : Option Nat} {rp : Option Nat} {K : Option Value → zHP → Prop}  : zWP (d + 1) 126 0 [some (.ref 0)] [] (ia, la, zRA pl dr cp cw rp) K = (if ¬ (ia 0 6) = 0 then zWM d 68 [.ref 72, .ref 82] (ia, la, zRA pl dr cp cw rp) (zK (d + 1) 126 20 [some (.ref 0)] [] K) else K (some (.int (-1 : Int32))) (ia, la, zRA pl dr cp cw rp)) := by
  refine (Q_aload_n zm_126 (Or.inl (by decide)) D126_0 rfl).trans ?_
  refine (Q_getI zm_126 (Or.inl (by decide)) D126_1 zf_9_98 (Or.inr zs_9_6) zk_0.1).trans ?_
  refine (Q_if_ne (tgt := 9) zm_126 (Or.inl (by decide)) D126_4 (by decide)).trans ?_
  refine zif_c (fun h0_ => ?_) (fun h0_ => ?_)
  · refine (Q_aload_n zm_126 (Or.inl (by decide)) D126_9 rfl).trans ?_
    refine (Q_getR (q := 72) zm_126 (Or.inl (by decide)) D126_10 zf_9_31 zs_9_3 zk_0.1 rfl).trans ?_
    refine (Q_aload_n zm_126 (Or.inl (by decide)) D126_13 rfl).trans ?_
    refine (Q_getR (q := 82) zm_126 (Or.inl (by decide)) D126_14 zf_9_35 zs_9_4 zk_0.1 rfl).trans ?_
    exact Q_callv (as := [.ref 82]) (b := 72) (rest := []) zm_126 (Or.inl (by decide)) D126_17 zc_9_230 rfl zk_72.1 (by decide) (by decide +kernel) (by decide) (by simp [zcat, Value.category]) zm_68 rfl
  · refine (Q_iconst (v := -1) zm_126 (Or.inl (by decide)) D126_7 (by decide)).trans ?_
    exact Q_ireturn zm_126 (Or.inl (by decide)) D126_8 rfl

theorem b126_20 {d : Nat}  {ia : Nat → Nat → Int32} {la : Nat → Nat → Int64} {pl dr : Nat} {cp : Option Nat} {cw : Option Nat} {rp : Option Nat} {K : Option Value → zHP → Prop}  : zWP (d + 1) 126 20 [some (.ref 0)] [] (ia, la, zRA pl dr cp cw rp) K = zWM d 11 [.ref 113] (ia, la, zRA pl dr cp cw rp) (zK (d + 1) 126 27 [some (.ref 0)] [] K) := by
  refine (Q_aload_n zm_126 (Or.inl (by decide)) D126_20 rfl).trans ?_
  refine (Q_getR (q := 113) zm_126 (Or.inl (by decide)) D126_21 zf_9_58 zs_9_9 zk_0.1 rfl).trans ?_
  exact Q_callv (as := []) (b := 113) (rest := []) zm_126 (Or.inl (by decide)) D126_24 zc_9_105 rfl zk_113.1 (by decide) (by decide +kernel) (by decide) (by simp [zcat, Value.category]) zm_11 rfl

theorem b126_27 {d : Nat}  {ia : Nat → Nat → Int32} {la : Nat → Nat → Int64} {pl dr : Nat} {cp : Option Nat} {cw : Option Nat} {rp : Option Nat} {K : Option Value → zHP → Prop}  : zWP d 126 27 [some (.ref 0)] [] (ia, la, zRA pl dr cp cw rp) K = K (some (.int (ia 72 0))) (ia, la, zRA pl dr cp cw rp) := by
  refine (Q_aload_n zm_126 (Or.inl (by decide)) D126_27 rfl).trans ?_
  refine (Q_getR (q := 72) zm_126 (Or.inl (by decide)) D126_28 zf_9_31 zs_9_3 zk_0.1 rfl).trans ?_
  refine (Q_getI zm_126 (Or.inl (by decide)) D126_31 zf_9_224 (Or.inl zs_8_0) zk_72.1).trans ?_
  exact Q_ireturn zm_126 (Or.inl (by decide)) D126_34 rfl

/-! HandsLet.count(I)I -/
theorem D127_0 : decode prog_1_method_54_code 0 = .ok (.iload_n 1, 1) := by decide +kernel
theorem D127_1 : decode prog_1_method_54_code 1 = .ok (.tableswitch 183 0 13 #[71, 79, 87, 95, 103, 111, 119, 127, 135, 143, 151, 159, 167, 175], 71) := by decide +kernel
theorem D127_72 : decode prog_1_method_54_code 72 = .ok (.aload_n 0, 1) := by decide +kernel
theorem D127_73 : decode prog_1_method_54_code 73 = .ok (.getfield 21, 3) := by decide +kernel
theorem D127_76 : decode prog_1_method_54_code 76 = .ok (.getfield 116, 3) := by decide +kernel
theorem D127_79 : decode prog_1_method_54_code 79 = .ok (.ireturn, 1) := by decide +kernel
theorem D127_80 : decode prog_1_method_54_code 80 = .ok (.aload_n 0, 1) := by decide +kernel
theorem D127_81 : decode prog_1_method_54_code 81 = .ok (.getfield 21, 3) := by decide +kernel
theorem D127_84 : decode prog_1_method_54_code 84 = .ok (.getfield 364, 3) := by decide +kernel
theorem D127_87 : decode prog_1_method_54_code 87 = .ok (.ireturn, 1) := by decide +kernel
theorem D127_88 : decode prog_1_method_54_code 88 = .ok (.aload_n 0, 1) := by decide +kernel
theorem D127_89 : decode prog_1_method_54_code 89 = .ok (.getfield 21, 3) := by decide +kernel
theorem D127_92 : decode prog_1_method_54_code 92 = .ok (.getfield 119, 3) := by decide +kernel
theorem D127_95 : decode prog_1_method_54_code 95 = .ok (.ireturn, 1) := by decide +kernel
theorem D127_96 : decode prog_1_method_54_code 96 = .ok (.aload_n 0, 1) := by decide +kernel
theorem D127_97 : decode prog_1_method_54_code 97 = .ok (.getfield 21, 3) := by decide +kernel
theorem D127_100 : decode prog_1_method_54_code 100 = .ok (.getfield 367, 3) := by decide +kernel
theorem D127_103 : decode prog_1_method_54_code 103 = .ok (.ireturn, 1) := by decide +kernel
theorem D127_104 : decode prog_1_method_54_code 104 = .ok (.aload_n 0, 1) := by decide +kernel
theorem D127_105 : decode prog_1_method_54_code 105 = .ok (.getfield 31, 3) := by decide +kernel
theorem D127_108 : decode prog_1_method_54_code 108 = .ok (.getfield 224, 3) := by decide +kernel
theorem D127_111 : decode prog_1_method_54_code 111 = .ok (.ireturn, 1) := by decide +kernel
theorem D127_112 : decode prog_1_method_54_code 112 = .ok (.aload_n 0, 1) := by decide +kernel
theorem D127_113 : decode prog_1_method_54_code 113 = .ok (.getfield 31, 3) := by decide +kernel
theorem D127_116 : decode prog_1_method_54_code 116 = .ok (.invokevirtual 370, 3) := by decide +kernel
theorem D127_119 : decode prog_1_method_54_code 119 = .ok (.ireturn, 1) := by decide +kernel
theorem D127_120 : decode prog_1_method_54_code 120 = .ok (.aload_n 0, 1) := by decide +kernel
theorem D127_121 : decode prog_1_method_54_code 121 = .ok (.getfield 31, 3) := by decide +kernel
theorem D127_124 : decode prog_1_method_54_code 124 = .ok (.invokevirtual 319, 3) := by decide +kernel
theorem D127_127 : decode prog_1_method_54_code 127 = .ok (.ireturn, 1) := by decide +kernel
theorem D127_128 : decode prog_1_method_54_code 128 = .ok (.aload_n 0, 1) := by decide +kernel
theorem D127_129 : decode prog_1_method_54_code 129 = .ok (.getfield 31, 3) := by decide +kernel
theorem D127_132 : decode prog_1_method_54_code 132 = .ok (.getfield 237, 3) := by decide +kernel
theorem D127_135 : decode prog_1_method_54_code 135 = .ok (.ireturn, 1) := by decide +kernel
theorem D127_136 : decode prog_1_method_54_code 136 = .ok (.aload_n 0, 1) := by decide +kernel
theorem D127_137 : decode prog_1_method_54_code 137 = .ok (.getfield 31, 3) := by decide +kernel
theorem D127_140 : decode prog_1_method_54_code 140 = .ok (.getfield 240, 3) := by decide +kernel
theorem D127_143 : decode prog_1_method_54_code 143 = .ok (.ireturn, 1) := by decide +kernel
theorem D127_144 : decode prog_1_method_54_code 144 = .ok (.aload_n 0, 1) := by decide +kernel
theorem D127_145 : decode prog_1_method_54_code 145 = .ok (.getfield 31, 3) := by decide +kernel
theorem D127_148 : decode prog_1_method_54_code 148 = .ok (.getfield 243, 3) := by decide +kernel
theorem D127_151 : decode prog_1_method_54_code 151 = .ok (.ireturn, 1) := by decide +kernel
theorem D127_152 : decode prog_1_method_54_code 152 = .ok (.aload_n 0, 1) := by decide +kernel
theorem D127_153 : decode prog_1_method_54_code 153 = .ok (.getfield 31, 3) := by decide +kernel
theorem D127_156 : decode prog_1_method_54_code 156 = .ok (.getfield 373, 3) := by decide +kernel
theorem D127_159 : decode prog_1_method_54_code 159 = .ok (.ireturn, 1) := by decide +kernel
theorem D127_160 : decode prog_1_method_54_code 160 = .ok (.aload_n 0, 1) := by decide +kernel
theorem D127_161 : decode prog_1_method_54_code 161 = .ok (.getfield 51, 3) := by decide +kernel
theorem D127_164 : decode prog_1_method_54_code 164 = .ok (.getfield 376, 3) := by decide +kernel
theorem D127_167 : decode prog_1_method_54_code 167 = .ok (.ireturn, 1) := by decide +kernel
theorem D127_168 : decode prog_1_method_54_code 168 = .ok (.aload_n 0, 1) := by decide +kernel
theorem D127_169 : decode prog_1_method_54_code 169 = .ok (.getfield 51, 3) := by decide +kernel
theorem D127_172 : decode prog_1_method_54_code 172 = .ok (.invokevirtual 379, 3) := by decide +kernel
theorem D127_175 : decode prog_1_method_54_code 175 = .ok (.ireturn, 1) := by decide +kernel
theorem D127_176 : decode prog_1_method_54_code 176 = .ok (.aload_n 0, 1) := by decide +kernel
theorem D127_177 : decode prog_1_method_54_code 177 = .ok (.getfield 58, 3) := by decide +kernel
theorem D127_180 : decode prog_1_method_54_code 180 = .ok (.getfield 382, 3) := by decide +kernel
theorem D127_183 : decode prog_1_method_54_code 183 = .ok (.ireturn, 1) := by decide +kernel
theorem D127_184 : decode prog_1_method_54_code 184 = .ok (.iconst (-1), 1) := by decide +kernel
theorem D127_185 : decode prog_1_method_54_code 185 = .ok (.ireturn, 1) := by decide +kernel

theorem b127_0 {d : Nat} {i1 : Int32} {ia : Nat → Nat → Int32} {la : Nat → Nat → Int64} {pl dr : Nat} {cp : Option Nat} {cw : Option Nat} {rp : Option Nat} {K : Option Value → zHP → Prop} (hpl : zIsP pl) : zWP (d + 1) 127 0 [some (.ref 0), some (.int i1)] [] (ia, la, zRA pl dr cp cw rp) K = (if i1 = 0 then K (some (.int (ia pl 1))) (ia, la, zRA pl dr cp cw rp) else (if i1 = 1 then K (some (.int (ia pl 2))) (ia, la, zRA pl dr cp cw rp) else (if i1 = 2 then K (some (.int (ia pl 3))) (ia, la, zRA pl dr cp cw rp) else (if i1 = 3 then K (some (.int (ia pl 4))) (ia, la, zRA pl dr cp cw rp) else (if i1 = 4 then K (some (.int (ia 72 0))) (ia, la, zRA pl dr cp cw rp) else (if i1 = 5 then zWM d 75 [.ref 72] (ia, la, zRA pl dr cp cw rp) (zK (d + 1) 127 119 [some (.ref 0), some (.int i1)] [] K) else (if i1 = 6 then zWM d 74 [.ref 72] (ia, la, zRA pl dr cp cw rp) (zK (d + 1) 127 127 [some (.ref 0), some (.int i1)] [] K) else (if i1 = 7 then K (some (.int (ia 72 11))) (ia, la, zRA pl dr cp cw rp) else (if i1 = 8 then K (some (.int (ia 72 12))) (ia, la, zRA pl dr cp cw rp) else (if i1 = 9 then K (some (.int (ia 72 13))) (ia, la, zRA pl dr cp cw rp) else (if i1 = 10 then K (some (.int (ia 72 14))) (ia, la, zRA pl dr cp cw rp) else (if i1 = 11 then K (some (.int (ia 106 0))) (ia, la, zRA pl dr cp cw rp) else (if i1 = 12 then zWM d 47 [.ref 106] (ia, la, zRA pl dr cp cw rp) (zK (d + 1) 127 175 [some (.ref 0), some (.int i1)] [] K) else (if i1 = 13 then K (some (.int (ia 113 2))) (ia, la, zRA pl dr cp cw rp) else K (some (.int (-1 : Int32))) (ia, la, zRA pl dr cp cw rp))))))))))))))) := by
  refine (Q_iload_n zm_127 (Or.inl (by decide)) D127_0 rfl).trans ?_
  by_cases h0_ : i1 = 0
  · rw [if_pos h0_]
    refine (congrArg (fun q => zWP (d + 1) 127 1 [some (.ref 0), some (.int i1)] (.int q :: []) (ia, la, zRA pl dr cp cw rp) K) h0_).trans ?_
    refine (Q_tsw (tgt := 72) zm_127 (Or.inl (by decide)) D127_1 rfl (by decide)).trans ?_
    refine (Q_aload_n zm_127 (Or.inl (by decide)) D127_72 rfl).trans ?_
    refine (Q_getR (q := pl) zm_127 (Or.inl (by decide)) D127_73 zf_9_21 zs_9_1 zk_0.1 rfl).trans ?_
    refine (Q_getI zm_127 (Or.inl (by decide)) D127_76 zf_9_116 (Or.inl zs_3_1) (zkp_0 hpl).1).trans ?_
    exact Q_ireturn zm_127 (Or.inl (by decide)) D127_79 rfl
  rw [if_neg h0_]
  by_cases h1_ : i1 = 1
  · rw [if_pos h1_]
    refine (congrArg (fun q => zWP (d + 1) 127 1 [some (.ref 0), some (.int i1)] (.int q :: []) (ia, la, zRA pl dr cp cw rp) K) h1_).trans ?_
    refine (Q_tsw (tgt := 80) zm_127 (Or.inl (by decide)) D127_1 rfl (by decide)).trans ?_
    refine (Q_aload_n zm_127 (Or.inl (by decide)) D127_80 rfl).trans ?_
    refine (Q_getR (q := pl) zm_127 (Or.inl (by decide)) D127_81 zf_9_21 zs_9_1 zk_0.1 rfl).trans ?_
    refine (Q_getI zm_127 (Or.inl (by decide)) D127_84 zf_9_364 (Or.inl zs_3_2) (zkp_0 hpl).1).trans ?_
    exact Q_ireturn zm_127 (Or.inl (by decide)) D127_87 rfl
  rw [if_neg h1_]
  by_cases h2_ : i1 = 2
  · rw [if_pos h2_]
    refine (congrArg (fun q => zWP (d + 1) 127 1 [some (.ref 0), some (.int i1)] (.int q :: []) (ia, la, zRA pl dr cp cw rp) K) h2_).trans ?_
    refine (Q_tsw (tgt := 88) zm_127 (Or.inl (by decide)) D127_1 rfl (by decide)).trans ?_
    refine (Q_aload_n zm_127 (Or.inl (by decide)) D127_88 rfl).trans ?_
    refine (Q_getR (q := pl) zm_127 (Or.inl (by decide)) D127_89 zf_9_21 zs_9_1 zk_0.1 rfl).trans ?_
    refine (Q_getI zm_127 (Or.inl (by decide)) D127_92 zf_9_119 (Or.inl zs_3_3) (zkp_0 hpl).1).trans ?_
    exact Q_ireturn zm_127 (Or.inl (by decide)) D127_95 rfl
  rw [if_neg h2_]
  by_cases h3_ : i1 = 3
  · rw [if_pos h3_]
    refine (congrArg (fun q => zWP (d + 1) 127 1 [some (.ref 0), some (.int i1)] (.int q :: []) (ia, la, zRA pl dr cp cw rp) K) h3_).trans ?_
    refine (Q_tsw (tgt := 96) zm_127 (Or.inl (by decide)) D127_1 rfl (by decide)).trans ?_
    refine (Q_aload_n zm_127 (Or.inl (by decide)) D127_96 rfl).trans ?_
    refine (Q_getR (q := pl) zm_127 (Or.inl (by decide)) D127_97 zf_9_21 zs_9_1 zk_0.1 rfl).trans ?_
    refine (Q_getI zm_127 (Or.inl (by decide)) D127_100 zf_9_367 (Or.inl zs_3_4) (zkp_0 hpl).1).trans ?_
    exact Q_ireturn zm_127 (Or.inl (by decide)) D127_103 rfl
  rw [if_neg h3_]
  by_cases h4_ : i1 = 4
  · rw [if_pos h4_]
    refine (congrArg (fun q => zWP (d + 1) 127 1 [some (.ref 0), some (.int i1)] (.int q :: []) (ia, la, zRA pl dr cp cw rp) K) h4_).trans ?_
    refine (Q_tsw (tgt := 104) zm_127 (Or.inl (by decide)) D127_1 rfl (by decide)).trans ?_
    refine (Q_aload_n zm_127 (Or.inl (by decide)) D127_104 rfl).trans ?_
    refine (Q_getR (q := 72) zm_127 (Or.inl (by decide)) D127_105 zf_9_31 zs_9_3 zk_0.1 rfl).trans ?_
    refine (Q_getI zm_127 (Or.inl (by decide)) D127_108 zf_9_224 (Or.inl zs_8_0) zk_72.1).trans ?_
    exact Q_ireturn zm_127 (Or.inl (by decide)) D127_111 rfl
  rw [if_neg h4_]
  by_cases h5_ : i1 = 5
  · rw [if_pos h5_]
    refine (congrArg (fun q => zWP (d + 1) 127 1 [some (.ref 0), some (.int i1)] (.int q :: []) (ia, la, zRA pl dr cp cw rp) K) h5_).trans ?_
    refine (Q_tsw (tgt := 112) zm_127 (Or.inl (by decide)) D127_1 rfl (by decide)).trans ?_
    refine (Q_aload_n zm_127 (Or.inl (by decide)) D127_112 rfl).trans ?_
    refine (Q_getR (q := 72) zm_127 (Or.inl (by decide)) D127_113 zf_9_31 zs_9_3 zk_0.1 rfl).trans ?_
    exact Q_callv (as := []) (b := 72) (rest := []) zm_127 (Or.inl (by decide)) D127_116 zc_9_370 rfl zk_72.1 (by decide) (by decide +kernel) (by decide) (by simp [zcat, Value.category]) zm_75 rfl
  rw [if_neg h5_]
  by_cases h6_ : i1 = 6
  · rw [if_pos h6_]
    refine (congrArg (fun q => zWP (d + 1) 127 1 [some (.ref 0), some (.int i1)] (.int q :: []) (ia, la, zRA pl dr cp cw rp) K) h6_).trans ?_
    refine (Q_tsw (tgt := 120) zm_127 (Or.inl (by decide)) D127_1 rfl (by decide)).trans ?_
    refine (Q_aload_n zm_127 (Or.inl (by decide)) D127_120 rfl).trans ?_
    refine (Q_getR (q := 72) zm_127 (Or.inl (by decide)) D127_121 zf_9_31 zs_9_3 zk_0.1 rfl).trans ?_
    exact Q_callv (as := []) (b := 72) (rest := []) zm_127 (Or.inl (by decide)) D127_124 zc_9_319 rfl zk_72.1 (by decide) (by decide +kernel) (by decide) (by simp [zcat, Value.category]) zm_74 rfl
  rw [if_neg h6_]
  by_cases h7_ : i1 = 7
  · rw [if_pos h7_]
    refine (congrArg (fun q => zWP (d + 1) 127 1 [some (.ref 0), some (.int i1)] (.int q :: []) (ia, la, zRA pl dr cp cw rp) K) h7_).trans ?_
    refine (Q_tsw (tgt := 128) zm_127 (Or.inl (by decide)) D127_1 rfl (by decide)).trans ?_
    refine (Q_aload_n zm_127 (Or.inl (by decide)) D127_128 rfl).trans ?_
    refine (Q_getR (q := 72) zm_127 (Or.inl (by decide)) D127_129 zf_9_31 zs_9_3 zk_0.1 rfl).trans ?_
    refine (Q_getI zm_127 (Or.inl (by decide)) D127_132 zf_9_237 (Or.inl zs_8_11) zk_72.1).trans ?_
    exact Q_ireturn zm_127 (Or.inl (by decide)) D127_135 rfl
  rw [if_neg h7_]
  by_cases h8_ : i1 = 8
  · rw [if_pos h8_]
    refine (congrArg (fun q => zWP (d + 1) 127 1 [some (.ref 0), some (.int i1)] (.int q :: []) (ia, la, zRA pl dr cp cw rp) K) h8_).trans ?_
    refine (Q_tsw (tgt := 136) zm_127 (Or.inl (by decide)) D127_1 rfl (by decide)).trans ?_
    refine (Q_aload_n zm_127 (Or.inl (by decide)) D127_136 rfl).trans ?_
    refine (Q_getR (q := 72) zm_127 (Or.inl (by decide)) D127_137 zf_9_31 zs_9_3 zk_0.1 rfl).trans ?_
    refine (Q_getI zm_127 (Or.inl (by decide)) D127_140 zf_9_240 (Or.inl zs_8_12) zk_72.1).trans ?_
    exact Q_ireturn zm_127 (Or.inl (by decide)) D127_143 rfl
  rw [if_neg h8_]
  by_cases h9_ : i1 = 9
  · rw [if_pos h9_]
    refine (congrArg (fun q => zWP (d + 1) 127 1 [some (.ref 0), some (.int i1)] (.int q :: []) (ia, la, zRA pl dr cp cw rp) K) h9_).trans ?_
    refine (Q_tsw (tgt := 144) zm_127 (Or.inl (by decide)) D127_1 rfl (by decide)).trans ?_
    refine (Q_aload_n zm_127 (Or.inl (by decide)) D127_144 rfl).trans ?_
    refine (Q_getR (q := 72) zm_127 (Or.inl (by decide)) D127_145 zf_9_31 zs_9_3 zk_0.1 rfl).trans ?_
    refine (Q_getI zm_127 (Or.inl (by decide)) D127_148 zf_9_243 (Or.inl zs_8_13) zk_72.1).trans ?_
    exact Q_ireturn zm_127 (Or.inl (by decide)) D127_151 rfl
  rw [if_neg h9_]
  by_cases h10_ : i1 = 10
  · rw [if_pos h10_]
    refine (congrArg (fun q => zWP (d + 1) 127 1 [some (.ref 0), some (.int i1)] (.int q :: []) (ia, la, zRA pl dr cp cw rp) K) h10_).trans ?_
    refine (Q_tsw (tgt := 152) zm_127 (Or.inl (by decide)) D127_1 rfl (by decide)).trans ?_
    refine (Q_aload_n zm_127 (Or.inl (by decide)) D127_152 rfl).trans ?_
    refine (Q_getR (q := 72) zm_127 (Or.inl (by decide)) D127_153 zf_9_31 zs_9_3 zk_0.1 rfl).trans ?_
    refine (Q_getI zm_127 (Or.inl (by decide)) D127_156 zf_9_373 (Or.inl zs_8_14) zk_72.1).trans ?_
    exact Q_ireturn zm_127 (Or.inl (by decide)) D127_159 rfl
  rw [if_neg h10_]
  by_cases h11_ : i1 = 11
  · rw [if_pos h11_]
    refine (congrArg (fun q => zWP (d + 1) 127 1 [some (.ref 0), some (.int i1)] (.int q :: []) (ia, la, zRA pl dr cp cw rp) K) h11_).trans ?_
    refine (Q_tsw (tgt := 160) zm_127 (Or.inl (by decide)) D127_1 rfl (by decide)).trans ?_
    refine (Q_aload_n zm_127 (Or.inl (by decide)) D127_160 rfl).trans ?_
    refine (Q_getR (q := 106) zm_127 (Or.inl (by decide)) D127_161 zf_9_51 zs_9_8 zk_0.1 rfl).trans ?_
    refine (Q_getI zm_127 (Or.inl (by decide)) D127_164 zf_9_376 (Or.inl zs_5_0) zk_106.1).trans ?_
    exact Q_ireturn zm_127 (Or.inl (by decide)) D127_167 rfl
  rw [if_neg h11_]
  by_cases h12_ : i1 = 12
  · rw [if_pos h12_]
    refine (congrArg (fun q => zWP (d + 1) 127 1 [some (.ref 0), some (.int i1)] (.int q :: []) (ia, la, zRA pl dr cp cw rp) K) h12_).trans ?_
    refine (Q_tsw (tgt := 168) zm_127 (Or.inl (by decide)) D127_1 rfl (by decide)).trans ?_
    refine (Q_aload_n zm_127 (Or.inl (by decide)) D127_168 rfl).trans ?_
    refine (Q_getR (q := 106) zm_127 (Or.inl (by decide)) D127_169 zf_9_51 zs_9_8 zk_0.1 rfl).trans ?_
    exact Q_callv (as := []) (b := 106) (rest := []) zm_127 (Or.inl (by decide)) D127_172 zc_9_379 rfl zk_106.1 (by decide) (by decide +kernel) (by decide) (by simp [zcat, Value.category]) zm_47 rfl
  rw [if_neg h12_]
  by_cases h13_ : i1 = 13
  · rw [if_pos h13_]
    refine (congrArg (fun q => zWP (d + 1) 127 1 [some (.ref 0), some (.int i1)] (.int q :: []) (ia, la, zRA pl dr cp cw rp) K) h13_).trans ?_
    refine (Q_tsw (tgt := 176) zm_127 (Or.inl (by decide)) D127_1 rfl (by decide)).trans ?_
    refine (Q_aload_n zm_127 (Or.inl (by decide)) D127_176 rfl).trans ?_
    refine (Q_getR (q := 113) zm_127 (Or.inl (by decide)) D127_177 zf_9_58 zs_9_9 zk_0.1 rfl).trans ?_
    refine (Q_getI zm_127 (Or.inl (by decide)) D127_180 zf_9_382 (Or.inl zs_1_2) zk_113.1).trans ?_
    exact Q_ireturn zm_127 (Or.inl (by decide)) D127_183 rfl
  rw [if_neg h13_]
  refine (Q_tsw (tgt := 184) zm_127 (Or.inl (by decide)) D127_1 (zsw_out (n := 14) (by decide) (fun q hq => ?_)) (by decide)).trans ?_
  · rcases (show q = 0 ∨ q = 1 ∨ q = 2 ∨ q = 3 ∨ q = 4 ∨ q = 5 ∨ q = 6 ∨ q = 7 ∨ q = 8 ∨ q = 9 ∨ q = 10 ∨ q = 11 ∨ q = 12 ∨ q = 13 by omega) with rfl | rfl | rfl | rfl | rfl | rfl | rfl | rfl | rfl | rfl | rfl | rfl | rfl | rfl
    · exact h0_
    · exact h1_
    · exact h2_
    · exact h3_
    · exact h4_
    · exact h5_
    · exact h6_
    · exact h7_
    · exact h8_
    · exact h9_
    · exact h10_
    · exact h11_
    · exact h12_
    · exact h13_
  refine (Q_iconst (v := -1) zm_127 (Or.inl (by decide)) D127_184 (by decide)).trans ?_
  exact Q_ireturn zm_127 (Or.inl (by decide)) D127_185 rfl

theorem b127_119 {d : Nat} {i1 : Int32} {s0 : Int32} {ia : Nat → Nat → Int32} {la : Nat → Nat → Int64} {pl dr : Nat} {cp : Option Nat} {cw : Option Nat} {rp : Option Nat} {K : Option Value → zHP → Prop}  : zWP d 127 119 [some (.ref 0), some (.int i1)] [.int s0] (ia, la, zRA pl dr cp cw rp) K = K (some (.int s0)) (ia, la, zRA pl dr cp cw rp) := by
  exact Q_ireturn zm_127 (Or.inl (by decide)) D127_119 rfl

theorem b127_127 {d : Nat} {i1 : Int32} {s0 : Int32} {ia : Nat → Nat → Int32} {la : Nat → Nat → Int64} {pl dr : Nat} {cp : Option Nat} {cw : Option Nat} {rp : Option Nat} {K : Option Value → zHP → Prop}  : zWP d 127 127 [some (.ref 0), some (.int i1)] [.int s0] (ia, la, zRA pl dr cp cw rp) K = K (some (.int s0)) (ia, la, zRA pl dr cp cw rp) := by
  exact Q_ireturn zm_127 (Or.inl (by decide)) D127_127 rfl

theorem b127_175 {d : Nat} {i1 : Int32} {s0 : Int32} {ia : Nat → Nat → Int32} {la : Nat → Nat → Int64} {pl dr : Nat} {cp : Option Nat} {cw : Option Nat} {rp : Option Nat} {K : Option Value → zHP → Prop}  : zWP d 127 175 [some (.ref 0), some (.int i1)] [.int s0] (ia, la, zRA pl dr cp cw rp) K = K (some (.int s0)) (ia, la, zRA pl dr cp cw rp) := by
  exact Q_ireturn zm_127 (Or.inl (by decide)) D127_175 rfl

/-! HandsLetModel.thrown()I -/
theorem D128_0 : decode prog_12_method_2_code 0 = .ok (.aload_n 0, 1) := by decide +kernel
theorem D128_1 : decode prog_12_method_2_code 1 = .ok (.getfield 151, 3) := by decide +kernel
theorem D128_4 : decode prog_12_method_2_code 4 = .ok (.ireturn, 1) := by decide +kernel

theorem b128_0 {d : Nat}  {ia : Nat → Nat → Int32} {la : Nat → Nat → Int64} {pl dr : Nat} {cp : Option Nat} {cw : Option Nat} {rp : Option Nat} {K : Option Value → zHP → Prop}  : zWP d 128 0 [some (.ref 127)] [] (ia, la, zRA pl dr cp cw rp) K = K (some (.int (ia 127 0))) (ia, la, zRA pl dr cp cw rp) := by
  refine (Q_aload_n zm_128 (Or.inl (by decide)) D128_0 rfl).trans ?_
  refine (Q_getI zm_128 (Or.inl (by decide)) D128_1 zf_10_151 (Or.inl zs_10_0) zk_127.1).trans ?_
  exact Q_ireturn zm_128 (Or.inl (by decide)) D128_4 rfl

/-! HandsLetModel.feed(IIIII)I -/
theorem D129_0 : decode prog_12_method_3_code 0 = .ok (.aload_n 0, 1) := by decide +kernel
theorem D129_1 : decode prog_12_method_3_code 1 = .ok (.iconst 0, 1) := by decide +kernel
theorem D129_2 : decode prog_12_method_3_code 2 = .ok (.putfield 151, 3) := by decide +kernel
theorem D129_5 : decode prog_12_method_3_code 5 = .ok (.aload_n 0, 1) := by decide +kernel
theorem D129_6 : decode prog_12_method_3_code 6 = .ok (.getfield 154, 3) := by decide +kernel
theorem D129_9 : decode prog_12_method_3_code 9 = .ok (.sipush 680, 3) := by decide +kernel
theorem D129_12 : decode prog_12_method_3_code 12 = .ok (.if_icmp .le 5, 3) := by decide +kernel
theorem D129_15 : decode prog_12_method_3_code 15 = .ok (.iconst (-1), 1) := by decide +kernel
theorem D129_16 : decode prog_12_method_3_code 16 = .ok (.ireturn, 1) := by decide +kernel
theorem D129_17 : decode prog_12_method_3_code 17 = .ok (.iconst 0, 1) := by decide +kernel
theorem D129_18 : decode prog_12_method_3_code 18 = .ok (.istore 6, 2) := by decide +kernel
theorem D129_20 : decode prog_12_method_3_code 20 = .ok (.iload 6, 2) := by decide +kernel
theorem D129_22 : decode prog_12_method_3_code 22 = .ok (.bipush 20, 2) := by decide +kernel
theorem D129_24 : decode prog_12_method_3_code 24 = .ok (.if_icmp .ge 86, 3) := by decide +kernel
theorem D129_27 : decode prog_12_method_3_code 27 = .ok (.iload 6, 2) := by decide +kernel
theorem D129_29 : decode prog_12_method_3_code 29 = .ok (.iconst 4, 1) := by decide +kernel
theorem D129_30 : decode prog_12_method_3_code 30 = .ok (.if_icmp .ge 7, 3) := by decide +kernel
theorem D129_33 : decode prog_12_method_3_code 33 = .ok (.iload_n 1, 1) := by decide +kernel
theorem D129_34 : decode prog_12_method_3_code 34 = .ok (.goto 39, 3) := by decide +kernel
theorem D129_37 : decode prog_12_method_3_code 37 = .ok (.iload 6, 2) := by decide +kernel
theorem D129_39 : decode prog_12_method_3_code 39 = .ok (.bipush 8, 2) := by decide +kernel
theorem D129_41 : decode prog_12_method_3_code 41 = .ok (.if_icmp .ge 7, 3) := by decide +kernel
theorem D129_44 : decode prog_12_method_3_code 44 = .ok (.iload_n 2, 1) := by decide +kernel
theorem D129_45 : decode prog_12_method_3_code 45 = .ok (.goto 28, 3) := by decide +kernel
theorem D129_48 : decode prog_12_method_3_code 48 = .ok (.iload 6, 2) := by decide +kernel
theorem D129_50 : decode prog_12_method_3_code 50 = .ok (.bipush 12, 2) := by decide +kernel
theorem D129_52 : decode prog_12_method_3_code 52 = .ok (.if_icmp .ge 7, 3) := by decide +kernel
theorem D129_55 : decode prog_12_method_3_code 55 = .ok (.iload_n 3, 1) := by decide +kernel
theorem D129_56 : decode prog_12_method_3_code 56 = .ok (.goto 17, 3) := by decide +kernel
theorem D129_59 : decode prog_12_method_3_code 59 = .ok (.iload 6, 2) := by decide +kernel
theorem D129_61 : decode prog_12_method_3_code 61 = .ok (.bipush 16, 2) := by decide +kernel
theorem D129_63 : decode prog_12_method_3_code 63 = .ok (.if_icmp .ge 8, 3) := by decide +kernel
theorem D129_66 : decode prog_12_method_3_code 66 = .ok (.iload 4, 2) := by decide +kernel
theorem D129_68 : decode prog_12_method_3_code 68 = .ok (.goto 5, 3) := by decide +kernel
theorem D129_71 : decode prog_12_method_3_code 71 = .ok (.iload 5, 2) := by decide +kernel
theorem D129_73 : decode prog_12_method_3_code 73 = .ok (.istore 7, 2) := by decide +kernel
theorem D129_75 : decode prog_12_method_3_code 75 = .ok (.aload_n 0, 1) := by decide +kernel
theorem D129_76 : decode prog_12_method_3_code 76 = .ok (.getfield 7, 3) := by decide +kernel
theorem D129_79 : decode prog_12_method_3_code 79 = .ok (.aload_n 0, 1) := by decide +kernel
theorem D129_80 : decode prog_12_method_3_code 80 = .ok (.getfield 154, 3) := by decide +kernel
theorem D129_83 : decode prog_12_method_3_code 83 = .ok (.iload 6, 2) := by decide +kernel
theorem D129_85 : decode prog_12_method_3_code 85 = .ok (.iadd, 1) := by decide +kernel
theorem D129_86 : decode prog_12_method_3_code 86 = .ok (.iload 7, 2) := by decide +kernel
theorem D129_88 : decode prog_12_method_3_code 88 = .ok (.bipush 24, 2) := by decide +kernel
theorem D129_90 : decode prog_12_method_3_code 90 = .ok (.bipush 8, 2) := by decide +kernel
theorem D129_92 : decode prog_12_method_3_code 92 = .ok (.iload 6, 2) := by decide +kernel
theorem D129_94 : decode prog_12_method_3_code 94 = .ok (.iconst 4, 1) := by decide +kernel
theorem D129_95 : decode prog_12_method_3_code 95 = .ok (.irem, 1) := by decide +kernel
theorem D129_96 : decode prog_12_method_3_code 96 = .ok (.imul, 1) := by decide +kernel
theorem D129_97 : decode prog_12_method_3_code 97 = .ok (.isub, 1) := by decide +kernel
theorem D129_98 : decode prog_12_method_3_code 98 = .ok (.ishr, 1) := by decide +kernel
theorem D129_99 : decode prog_12_method_3_code 99 = .ok (.sipush 255, 3) := by decide +kernel
theorem D129_102 : decode prog_12_method_3_code 102 = .ok (.iand, 1) := by decide +kernel
theorem D129_103 : decode prog_12_method_3_code 103 = .ok (.iastore, 1) := by decide +kernel
theorem D129_104 : decode prog_12_method_3_code 104 = .ok (.iinc 6 1, 3) := by decide +kernel
theorem D129_107 : decode prog_12_method_3_code 107 = .ok (.goto (-87), 3) := by decide +kernel
theorem D129_110 : decode prog_12_method_3_code 110 = .ok (.aload_n 0, 1) := by decide +kernel
theorem D129_111 : decode prog_12_method_3_code 111 = .ok (.dup, 1) := by decide +kernel
theorem D129_112 : decode prog_12_method_3_code 112 = .ok (.getfield 154, 3) := by decide +kernel
theorem D129_115 : decode prog_12_method_3_code 115 = .ok (.bipush 20, 2) := by decide +kernel
theorem D129_117 : decode prog_12_method_3_code 117 = .ok (.iadd, 1) := by decide +kernel
theorem D129_118 : decode prog_12_method_3_code 118 = .ok (.putfield 154, 3) := by decide +kernel
theorem D129_121 : decode prog_12_method_3_code 121 = .ok (.aload_n 0, 1) := by decide +kernel
theorem D129_122 : decode prog_12_method_3_code 122 = .ok (.getfield 154, 3) := by decide +kernel
theorem D129_125 : decode prog_12_method_3_code 125 = .ok (.ireturn, 1) := by decide +kernel

theorem b129_0 {d : Nat} {i1 : Int32} {i2 : Int32} {i3 : Int32} {i4 : Int32} {i5 : Int32} {ia : Nat → Nat → Int32} {la : Nat → Nat → Int64} {pl dr : Nat} {cp : Option Nat} {cw : Option Nat} {rp : Option Nat} {K : Option Value → zHP → Prop}  : zWP d 129 0 [some (.ref 127), some (.int i1), some (.int i2), some (.int i3), some (.int i4), some (.int i5), none, none] [] (ia, la, zRA pl dr cp cw rp) K = (if ((zu ia 127 0 (0 : Int32)) 127 2) ≤ (680 : Int32) then zWP d 129 20 [some (.ref 127), some (.int i1), some (.int i2), some (.int i3), some (.int i4), some (.int i5), some (.int (0 : Int32)), none] [] ((zu ia 127 0 (0 : Int32)), la, zRA pl dr cp cw rp) K else K (some (.int (-1 : Int32))) ((zu ia 127 0 (0 : Int32)), la, zRA pl dr cp cw rp)) := by
  refine (Q_aload_n zm_129 (Or.inl (by decide)) D129_0 rfl).trans ?_
  refine (Q_iconst (v := 0) zm_129 (Or.inl (by decide)) D129_1 (by decide)).trans ?_
  refine (Q_putI zm_129 (Or.inl (by decide)) D129_2 zf_10_151 zs_10_0 rfl zk_127.1).trans ?_
  refine (Q_aload_n zm_129 (Or.inl (by decide)) D129_5 rfl).trans ?_
  refine (Q_getI zm_129 (Or.inl (by decide)) D129_6 zf_10_154 (Or.inl zs_10_2) zk_127.1).trans ?_
  refine (Q_sipush (v := 680) zm_129 (Or.inl (by decide)) D129_9 (by decide)).trans ?_
  refine (Q_ic_le (tgt := 17) zm_129 (Or.inl (by decide)) D129_12 (by decide)).trans ?_
  refine zif_c (fun h0_ => ?_) (fun h0_ => ?_)
  · refine (Q_iconst (v := 0) zm_129 (Or.inl (by decide)) D129_17 (by decide)).trans ?_
    refine (Q_istore (ls' := [some (.ref 127), some (.int i1), some (.int i2), some (.int i3), some (.int i4), some (.int i5), some (.int (0 : Int32)), none]) zm_129 (Or.inl (by decide)) D129_18 rfl (Nat.le_of_ble_eq_true rfl) rfl).trans ?_
    rfl
  · refine (Q_iconst (v := -1) zm_129 (Or.inl (by decide)) D129_15 (by decide)).trans ?_
    exact Q_ireturn zm_129 (Or.inl (by decide)) D129_16 rfl

theorem b129_20 {d : Nat} {i1 : Int32} {i2 : Int32} {i3 : Int32} {i4 : Int32} {i5 : Int32} {i6 : Int32} {a7 : Option Value} {ia : Nat → Nat → Int32} {la : Nat → Nat → Int64} {pl dr : Nat} {cp : Option Nat} {cw : Option Nat} {rp : Option Nat} {K : Option Value → zHP → Prop}  : zWP d 129 20 [some (.ref 127), some (.int i1), some (.int i2), some (.int i3), some (.int i4), some (.int i5), some (.int i6), a7] [] (ia, la, zRA pl dr cp cw rp) K = (if (20 : Int32) ≤ i6 then K (some (.int ((zu ia 127 2 ((ia 127 2) + (20 : Int32))) 127 2))) ((zu ia 127 2 ((ia 127 2) + (20 : Int32))), la, zRA pl dr cp cw rp) else (if (4 : Int32) ≤ i6 then (if (8 : Int32) ≤ i6 then (if (12 : Int32) ≤ i6 then (if (16 : Int32) ≤ i6 then zWP d 129 73 [some (.ref 127), some (.int i1), some (.int i2), some (.int i3), some (.int i4), some (.int i5), some (.int i6), a7] [.int i5] (ia, la, zRA pl dr cp cw rp) K else zWP d 129 73 [some (.ref 127), some (.int i1), some (.int i2), some (.int i3), some (.int i4), some (.int i5), some (.int i6), a7] [.int i4] (ia, la, zRA pl dr cp cw rp) K) else zWP d 129 73 [some (.ref 127), some (.int i1), some (.int i2), some (.int i3), some (.int i4), some (.int i5), some (.int i6), a7] [.int i3] (ia, la, zRA pl dr cp cw rp) K) else zWP d 129 73 [some (.ref 127), some (.int i1), some (.int i2), some (.int i3), some (.int i4), some (.int i5), some (.int i6), a7] [.int i2] (ia, la, zRA pl dr cp cw rp) K) else zWP d 129 73 [some (.ref 127), some (.int i1), some (.int i2), some (.int i3), some (.int i4), some (.int i5), some (.int i6), a7] [.int i1] (ia, la, zRA pl dr cp cw rp) K)) := by
  refine (Q_iload zm_129 (Or.inl (by decide)) D129_20 rfl).trans ?_
  refine (Q_bipush (v := 20) zm_129 (Or.inl (by decide)) D129_22 (by decide)).trans ?_
  refine (Q_ic_ge (tgt := 110) zm_129 (Or.inl (by decide)) D129_24 (by decide)).trans ?_
  refine zif_c (fun h0_ => ?_) (fun h0_ => ?_)
  · refine (Q_aload_n zm_129 (Or.inl (by decide)) D129_110 rfl).trans ?_
    refine (Q_dup zm_129 (Or.inl (by decide)) D129_111 rfl).trans ?_
    refine (Q_getI zm_129 (Or.inl (by decide)) D129_112 zf_10_154 (Or.inl zs_10_2) zk_127.1).trans ?_
    refine (Q_bipush (v := 20) zm_129 (Or.inl (by decide)) D129_115 (by decide)).trans ?_
    refine (Q_iadd zm_129 (Or.inl (by decide)) D129_117).trans ?_
    refine (Q_putI zm_129 (Or.inl (by decide)) D129_118 zf_10_154 zs_10_2 rfl zk_127.1).trans ?_
    refine (Q_aload_n zm_129 (Or.inl (by decide)) D129_121 rfl).trans ?_
    refine (Q_getI zm_129 (Or.inl (by decide)) D129_122 zf_10_154 (Or.inl zs_10_2) zk_127.1).trans ?_
    exact Q_ireturn zm_129 (Or.inl (by decide)) D129_125 rfl
  · refine (Q_iload zm_129 (Or.inl (by decide)) D129_27 rfl).trans ?_
    refine (Q_iconst (v := 4) zm_129 (Or.inl (by decide)) D129_29 (by decide)).trans ?_
    refine (Q_ic_ge (tgt := 37) zm_129 (Or.inl (by decide)) D129_30 (by decide)).trans ?_
    refine zif_c (fun h1_ => ?_) (fun h1_ => ?_)
    · refine (Q_iload zm_129 (Or.inl (by decide)) D129_37 rfl).trans ?_
      refine (Q_bipush (v := 8) zm_129 (Or.inl (by decide)) D129_39 (by decide)).trans ?_
      refine (Q_ic_ge (tgt := 48) zm_129 (Or.inl (by decide)) D129_41 (by decide)).trans ?_
      refine zif_c (fun h2_ => ?_) (fun h2_ => ?_)
      · refine (Q_iload zm_129 (Or.inl (by decide)) D129_48 rfl).trans ?_
        refine (Q_bipush (v := 12) zm_129 (Or.inl (by decide)) D129_50 (by decide)).trans ?_
        refine (Q_ic_ge (tgt := 59) zm_129 (Or.inl (by decide)) D129_52 (by decide)).trans ?_
        refine zif_c (fun h3_ => ?_) (fun h3_ => ?_)
        · refine (Q_iload zm_129 (Or.inl (by decide)) D129_59 rfl).trans ?_
          refine (Q_bipush (v := 16) zm_129 (Or.inl (by decide)) D129_61 (by decide)).trans ?_
          refine (Q_ic_ge (tgt := 71) zm_129 (Or.inl (by decide)) D129_63 (by decide)).trans ?_
          refine zif_c (fun h4_ => ?_) (fun h4_ => ?_)
          · refine (Q_iload zm_129 (Or.inl (by decide)) D129_71 rfl).trans ?_
            rfl
          · refine (Q_iload zm_129 (Or.inl (by decide)) D129_66 rfl).trans ?_
            refine (Q_goto (tgt := 73) zm_129 (Or.inl (by decide)) D129_68 (by decide)).trans ?_
            rfl
        · refine (Q_iload_n zm_129 (Or.inl (by decide)) D129_55 rfl).trans ?_
          refine (Q_goto (tgt := 73) zm_129 (Or.inl (by decide)) D129_56 (by decide)).trans ?_
          rfl
      · refine (Q_iload_n zm_129 (Or.inl (by decide)) D129_44 rfl).trans ?_
        refine (Q_goto (tgt := 73) zm_129 (Or.inl (by decide)) D129_45 (by decide)).trans ?_
        rfl
    · refine (Q_iload_n zm_129 (Or.inl (by decide)) D129_33 rfl).trans ?_
      refine (Q_goto (tgt := 73) zm_129 (Or.inl (by decide)) D129_34 (by decide)).trans ?_
      rfl

theorem b129_73 {d : Nat} {i1 : Int32} {i2 : Int32} {i3 : Int32} {i4 : Int32} {i5 : Int32} {i6 : Int32} {a7 : Option Value} {s0 : Int32} {ia : Nat → Nat → Int32} {la : Nat → Nat → Int64} {pl dr : Nat} {cp : Option Nat} {cw : Option Nat} {rp : Option Nat} {K : Option Value → zHP → Prop}  : zWP d 129 73 [some (.ref 127), some (.int i1), some (.int i2), some (.int i3), some (.int i4), some (.int i5), some (.int i6), a7] [.int s0] (ia, la, zRA pl dr cp cw rp) K = (vp_in ((ia 127 2) + i6) 700 ∧ zWP d 129 20 [some (.ref 127), some (.int i1), some (.int i2), some (.int i3), some (.int i4), some (.int i5), some (.int (i6 + (1 : Int32))), some (.int s0)] [] ((zu ia 128 (((ia 127 2) + i6)).toNatClampNeg ((s0 >>> (((24 : Int32) - ((8 : Int32) * (i6 - i6 / (4 : Int32) * (4 : Int32)))) &&& 31)) &&& (255 : Int32))), la, zRA pl dr cp cw rp) K) := by
  refine (Q_istore (ls' := [some (.ref 127), some (.int i1), some (.int i2), some (.int i3), some (.int i4), some (.int i5), some (.int i6), some (.int s0)]) zm_129 (Or.inl (by decide)) D129_73 rfl (Nat.le_of_ble_eq_true rfl) rfl).trans ?_
  refine (Q_aload_n zm_129 (Or.inl (by decide)) D129_75 rfl).trans ?_
  refine (Q_getR (q := 128) zm_129 (Or.inl (by decide)) D129_76 zf_10_7 zs_10_1 zk_127.1 rfl).trans ?_
  refine (Q_aload_n zm_129 (Or.inl (by decide)) D129_79 rfl).trans ?_
  refine (Q_getI zm_129 (Or.inl (by decide)) D129_80 zf_10_154 (Or.inl zs_10_2) zk_127.1).trans ?_
  refine (Q_iload zm_129 (Or.inl (by decide)) D129_83 rfl).trans ?_
  refine (Q_iadd zm_129 (Or.inl (by decide)) D129_85).trans ?_
  refine (Q_iload zm_129 (Or.inl (by decide)) D129_86 rfl).trans ?_
  refine (Q_bipush (v := 24) zm_129 (Or.inl (by decide)) D129_88 (by decide)).trans ?_
  refine (Q_bipush (v := 8) zm_129 (Or.inl (by decide)) D129_90 (by decide)).trans ?_
  refine (Q_iload zm_129 (Or.inl (by decide)) D129_92 rfl).trans ?_
  refine (Q_iconst (v := 4) zm_129 (Or.inl (by decide)) D129_94 (by decide)).trans ?_
  refine (Q_irem zm_129 (Or.inl (by decide)) D129_95 (by decide)).trans ?_
  refine (Q_imul zm_129 (Or.inl (by decide)) D129_96).trans ?_
  refine (Q_isub zm_129 (Or.inl (by decide)) D129_97).trans ?_
  refine (Q_ishr zm_129 (Or.inl (by decide)) D129_98).trans ?_
  refine (Q_sipush (v := 255) zm_129 (Or.inl (by decide)) D129_99 (by decide)).trans ?_
  refine (Q_iand zm_129 (Or.inl (by decide)) D129_102).trans ?_
  refine (Q_iastore zm_129 (Or.inl (by decide)) D129_103 zk_128.1 zk_128.2).trans ?_
  refine zand_c (fun h0_ => ?_)
  refine (Q_iinc (v := 1) (ls' := [some (.ref 127), some (.int i1), some (.int i2), some (.int i3), some (.int i4), some (.int i5), some (.int (i6 + (1 : Int32))), some (.int s0)]) zm_129 (Or.inl (by decide)) D129_104 rfl rfl (by decide) rfl).trans ?_
  refine (Q_goto (tgt := 20) zm_129 (Or.inl (by decide)) D129_107 (by decide)).trans ?_
  rfl

/-! HandsLetModel.here()I -/
theorem D130_0 : decode prog_12_method_4_code 0 = .ok (.aload_n 0, 1) := by decide +kernel
theorem D130_1 : decode prog_12_method_4_code 1 = .ok (.getfield 157, 3) := by decide +kernel
theorem D130_4 : decode prog_12_method_4_code 4 = .ok (.aload_n 0, 1) := by decide +kernel
theorem D130_5 : decode prog_12_method_4_code 5 = .ok (.getfield 160, 3) := by decide +kernel
theorem D130_8 : decode prog_12_method_4_code 8 = .ok (.if_icmp .ge 15, 3) := by decide +kernel
theorem D130_11 : decode prog_12_method_4_code 11 = .ok (.aload_n 0, 1) := by decide +kernel
theorem D130_12 : decode prog_12_method_4_code 12 = .ok (.getfield 7, 3) := by decide +kernel
theorem D130_15 : decode prog_12_method_4_code 15 = .ok (.aload_n 0, 1) := by decide +kernel
theorem D130_16 : decode prog_12_method_4_code 16 = .ok (.getfield 157, 3) := by decide +kernel
theorem D130_19 : decode prog_12_method_4_code 19 = .ok (.iaload, 1) := by decide +kernel
theorem D130_20 : decode prog_12_method_4_code 20 = .ok (.goto 4, 3) := by decide +kernel
theorem D130_23 : decode prog_12_method_4_code 23 = .ok (.iconst (-1), 1) := by decide +kernel
theorem D130_24 : decode prog_12_method_4_code 24 = .ok (.ireturn, 1) := by decide +kernel

theorem b130_0 {d : Nat}  {ia : Nat → Nat → Int32} {la : Nat → Nat → Int64} {pl dr : Nat} {cp : Option Nat} {cw : Option Nat} {rp : Option Nat} {K : Option Value → zHP → Prop}  : zWP d 130 0 [some (.ref 127)] [] (ia, la, zRA pl dr cp cw rp) K = (if (ia 127 21) ≤ (ia 127 22) then K (some (.int (-1 : Int32))) (ia, la, zRA pl dr cp cw rp) else (vp_in (ia 127 22) 700 ∧ K (some (.int (ia 128 ((ia 127 22)).toNatClampNeg))) (ia, la, zRA pl dr cp cw rp))) := by
  refine (Q_aload_n zm_130 (Or.inl (by decide)) D130_0 rfl).trans ?_
  refine (Q_getI zm_130 (Or.inl (by decide)) D130_1 zf_10_157 (Or.inl zs_10_22) zk_127.1).trans ?_
  refine (Q_aload_n zm_130 (Or.inl (by decide)) D130_4 rfl).trans ?_
  refine (Q_getI zm_130 (Or.inl (by decide)) D130_5 zf_10_160 (Or.inl zs_10_21) zk_127.1).trans ?_
  refine (Q_ic_ge (tgt := 23) zm_130 (Or.inl (by decide)) D130_8 (by decide)).trans ?_
  refine zif_c (fun h0_ => ?_) (fun h0_ => ?_)
  · refine (Q_iconst (v := -1) zm_130 (Or.inl (by decide)) D130_23 (by decide)).trans ?_
    exact Q_ireturn zm_130 (Or.inl (by decide)) D130_24 rfl
  · refine (Q_aload_n zm_130 (Or.inl (by decide)) D130_11 rfl).trans ?_
    refine (Q_getR (q := 128) zm_130 (Or.inl (by decide)) D130_12 zf_10_7 zs_10_1 zk_127.1 rfl).trans ?_
    refine (Q_aload_n zm_130 (Or.inl (by decide)) D130_15 rfl).trans ?_
    refine (Q_getI zm_130 (Or.inl (by decide)) D130_16 zf_10_157 (Or.inl zs_10_22) zk_127.1).trans ?_
    refine (Q_iaload zm_130 (Or.inl (by decide)) D130_19 zk_128.1 zk_128.2).trans ?_
    refine zand_c (fun h1_ => ?_)
    refine (Q_goto (tgt := 24) zm_130 (Or.inl (by decide)) D130_20 (by decide)).trans ?_
    exact Q_ireturn zm_130 (Or.inl (by decide)) D130_24 rfl

/-! HandsLetModel.isSmall(I)Z -/
theorem D131_0 : decode prog_12_method_5_code 0 = .ok (.iload_n 0, 1) := by decide +kernel
theorem D131_1 : decode prog_12_method_5_code 1 = .ok (.bipush 97, 2) := by decide +kernel
theorem D131_3 : decode prog_12_method_5_code 3 = .ok (.if_icmp .lt 13, 3) := by decide +kernel
theorem D131_6 : decode prog_12_method_5_code 6 = .ok (.iload_n 0, 1) := by decide +kernel
theorem D131_7 : decode prog_12_method_5_code 7 = .ok (.bipush 122, 2) := by decide +kernel
theorem D131_9 : decode prog_12_method_5_code 9 = .ok (.if_icmp .gt 7, 3) := by decide +kernel
theorem D131_12 : decode prog_12_method_5_code 12 = .ok (.iconst 1, 1) := by decide +kernel
theorem D131_13 : decode prog_12_method_5_code 13 = .ok (.goto 4, 3) := by decide +kernel
theorem D131_16 : decode prog_12_method_5_code 16 = .ok (.iconst 0, 1) := by decide +kernel
theorem D131_17 : decode prog_12_method_5_code 17 = .ok (.ireturn, 1) := by decide +kernel

theorem b131_0 {d : Nat} {i0 : Int32} {ia : Nat → Nat → Int32} {la : Nat → Nat → Int64} {pl dr : Nat} {cp : Option Nat} {cw : Option Nat} {rp : Option Nat} {K : Option Value → zHP → Prop}  : zWP d 131 0 [some (.int i0)] [] (ia, la, zRA pl dr cp cw rp) K = (if i0 < (97 : Int32) then K (some (.int (0 : Int32))) (ia, la, zRA pl dr cp cw rp) else (if (122 : Int32) < i0 then K (some (.int (0 : Int32))) (ia, la, zRA pl dr cp cw rp) else K (some (.int (1 : Int32))) (ia, la, zRA pl dr cp cw rp))) := by
  refine (Q_iload_n zm_131 (Or.inl (by decide)) D131_0 rfl).trans ?_
  refine (Q_bipush (v := 97) zm_131 (Or.inl (by decide)) D131_1 (by decide)).trans ?_
  refine (Q_ic_lt (tgt := 16) zm_131 (Or.inl (by decide)) D131_3 (by decide)).trans ?_
  refine zif_c (fun h0_ => ?_) (fun h0_ => ?_)
  · refine (Q_iconst (v := 0) zm_131 (Or.inl (by decide)) D131_16 (by decide)).trans ?_
    exact Q_zreturn zm_131 (Or.inl (by decide)) D131_17 rfl (by decide)
  · refine (Q_iload_n zm_131 (Or.inl (by decide)) D131_6 rfl).trans ?_
    refine (Q_bipush (v := 122) zm_131 (Or.inl (by decide)) D131_7 (by decide)).trans ?_
    refine (Q_ic_gt (tgt := 16) zm_131 (Or.inl (by decide)) D131_9 (by decide)).trans ?_
    refine zif_c (fun h1_ => ?_) (fun h1_ => ?_)
    · refine (Q_iconst (v := 0) zm_131 (Or.inl (by decide)) D131_16 (by decide)).trans ?_
      exact Q_zreturn zm_131 (Or.inl (by decide)) D131_17 rfl (by decide)
    · refine (Q_iconst (v := 1) zm_131 (Or.inl (by decide)) D131_12 (by decide)).trans ?_
      refine (Q_goto (tgt := 17) zm_131 (Or.inl (by decide)) D131_13 (by decide)).trans ?_
      exact Q_zreturn zm_131 (Or.inl (by decide)) D131_17 rfl (by decide)

/-! HandsLetModel.isDigit(I)Z -/
theorem D132_0 : decode prog_12_method_6_code 0 = .ok (.iload_n 0, 1) := by decide +kernel
theorem D132_1 : decode prog_12_method_6_code 1 = .ok (.bipush 48, 2) := by decide +kernel
theorem D132_3 : decode prog_12_method_6_code 3 = .ok (.if_icmp .lt 13, 3) := by decide +kernel
theorem D132_6 : decode prog_12_method_6_code 6 = .ok (.iload_n 0, 1) := by decide +kernel
theorem D132_7 : decode prog_12_method_6_code 7 = .ok (.bipush 57, 2) := by decide +kernel
theorem D132_9 : decode prog_12_method_6_code 9 = .ok (.if_icmp .gt 7, 3) := by decide +kernel
theorem D132_12 : decode prog_12_method_6_code 12 = .ok (.iconst 1, 1) := by decide +kernel
theorem D132_13 : decode prog_12_method_6_code 13 = .ok (.goto 4, 3) := by decide +kernel
theorem D132_16 : decode prog_12_method_6_code 16 = .ok (.iconst 0, 1) := by decide +kernel
theorem D132_17 : decode prog_12_method_6_code 17 = .ok (.ireturn, 1) := by decide +kernel

theorem b132_0 {d : Nat} {i0 : Int32} {ia : Nat → Nat → Int32} {la : Nat → Nat → Int64} {pl dr : Nat} {cp : Option Nat} {cw : Option Nat} {rp : Option Nat} {K : Option Value → zHP → Prop}  : zWP d 132 0 [some (.int i0)] [] (ia, la, zRA pl dr cp cw rp) K = (if i0 < (48 : Int32) then K (some (.int (0 : Int32))) (ia, la, zRA pl dr cp cw rp) else (if (57 : Int32) < i0 then K (some (.int (0 : Int32))) (ia, la, zRA pl dr cp cw rp) else K (some (.int (1 : Int32))) (ia, la, zRA pl dr cp cw rp))) := by
  refine (Q_iload_n zm_132 (Or.inl (by decide)) D132_0 rfl).trans ?_
  refine (Q_bipush (v := 48) zm_132 (Or.inl (by decide)) D132_1 (by decide)).trans ?_
  refine (Q_ic_lt (tgt := 16) zm_132 (Or.inl (by decide)) D132_3 (by decide)).trans ?_
  refine zif_c (fun h0_ => ?_) (fun h0_ => ?_)
  · refine (Q_iconst (v := 0) zm_132 (Or.inl (by decide)) D132_16 (by decide)).trans ?_
    exact Q_zreturn zm_132 (Or.inl (by decide)) D132_17 rfl (by decide)
  · refine (Q_iload_n zm_132 (Or.inl (by decide)) D132_6 rfl).trans ?_
    refine (Q_bipush (v := 57) zm_132 (Or.inl (by decide)) D132_7 (by decide)).trans ?_
    refine (Q_ic_gt (tgt := 16) zm_132 (Or.inl (by decide)) D132_9 (by decide)).trans ?_
    refine zif_c (fun h1_ => ?_) (fun h1_ => ?_)
    · refine (Q_iconst (v := 0) zm_132 (Or.inl (by decide)) D132_16 (by decide)).trans ?_
      exact Q_zreturn zm_132 (Or.inl (by decide)) D132_17 rfl (by decide)
    · refine (Q_iconst (v := 1) zm_132 (Or.inl (by decide)) D132_12 (by decide)).trans ?_
      refine (Q_goto (tgt := 17) zm_132 (Or.inl (by decide)) D132_13 (by decide)).trans ?_
      exact Q_zreturn zm_132 (Or.inl (by decide)) D132_17 rfl (by decide)

/-! HandsLetModel.token()V -/
theorem D133_0 : decode prog_12_method_7_code 0 = .ok (.aload_n 0, 1) := by decide +kernel
theorem D133_1 : decode prog_12_method_7_code 1 = .ok (.invokevirtual 163, 3) := by decide +kernel
theorem D133_4 : decode prog_12_method_7_code 4 = .ok (.bipush 10, 2) := by decide +kernel
theorem D133_6 : decode prog_12_method_7_code 6 = .ok (.if_icmp .eq 12, 3) := by decide +kernel
theorem D133_9 : decode prog_12_method_7_code 9 = .ok (.aload_n 0, 1) := by decide +kernel
theorem D133_10 : decode prog_12_method_7_code 10 = .ok (.invokevirtual 163, 3) := by decide +kernel
theorem D133_13 : decode prog_12_method_7_code 13 = .ok (.bipush 32, 2) := by decide +kernel
theorem D133_15 : decode prog_12_method_7_code 15 = .ok (.if_icmp .ne 16, 3) := by decide +kernel
theorem D133_18 : decode prog_12_method_7_code 18 = .ok (.aload_n 0, 1) := by decide +kernel
theorem D133_19 : decode prog_12_method_7_code 19 = .ok (.dup, 1) := by decide +kernel
theorem D133_20 : decode prog_12_method_7_code 20 = .ok (.getfield 157, 3) := by decide +kernel
theorem D133_23 : decode prog_12_method_7_code 23 = .ok (.iconst 1, 1) := by decide +kernel
theorem D133_24 : decode prog_12_method_7_code 24 = .ok (.iadd, 1) := by decide +kernel
theorem D133_25 : decode prog_12_method_7_code 25 = .ok (.putfield 157, 3) := by decide +kernel
theorem D133_28 : decode prog_12_method_7_code 28 = .ok (.goto (-28), 3) := by decide +kernel
theorem D133_31 : decode prog_12_method_7_code 31 = .ok (.aload_n 0, 1) := by decide +kernel
theorem D133_32 : decode prog_12_method_7_code 32 = .ok (.aload_n 0, 1) := by decide +kernel
theorem D133_33 : decode prog_12_method_7_code 33 = .ok (.getfield 157, 3) := by decide +kernel
theorem D133_36 : decode prog_12_method_7_code 36 = .ok (.putfield 167, 3) := by decide +kernel
theorem D133_39 : decode prog_12_method_7_code 39 = .ok (.aload_n 0, 1) := by decide +kernel
theorem D133_40 : decode prog_12_method_7_code 40 = .ok (.invokevirtual 163, 3) := by decide +kernel
theorem D133_43 : decode prog_12_method_7_code 43 = .ok (.istore_n 1, 1) := by decide +kernel
theorem D133_44 : decode prog_12_method_7_code 44 = .ok (.iload_n 1, 1) := by decide +kernel
theorem D133_45 : decode prog_12_method_7_code 45 = .ok (.iconst (-1), 1) := by decide +kernel
theorem D133_46 : decode prog_12_method_7_code 46 = .ok (.if_icmp .ne 11, 3) := by decide +kernel
theorem D133_49 : decode prog_12_method_7_code 49 = .ok (.aload_n 0, 1) := by decide +kernel
theorem D133_50 : decode prog_12_method_7_code 50 = .ok (.iconst 4, 1) := by decide +kernel
theorem D133_51 : decode prog_12_method_7_code 51 = .ok (.putfield 170, 3) := by decide +kernel
theorem D133_54 : decode prog_12_method_7_code 54 = .ok (.goto 171, 3) := by decide +kernel
theorem D133_57 : decode prog_12_method_7_code 57 = .ok (.iload_n 1, 1) := by decide +kernel
theorem D133_58 : decode prog_12_method_7_code 58 = .ok (.invokestatic 173, 3) := by decide +kernel
theorem D133_61 : decode prog_12_method_7_code 61 = .ok (.ifCond .eq 84, 3) := by decide +kernel
theorem D133_64 : decode prog_12_method_7_code 64 = .ok (.aload_n 0, 1) := by decide +kernel
theorem D133_65 : decode prog_12_method_7_code 65 = .ok (.invokevirtual 163, 3) := by decide +kernel
theorem D133_68 : decode prog_12_method_7_code 68 = .ok (.invokestatic 173, 3) := by decide +kernel
theorem D133_71 : decode prog_12_method_7_code 71 = .ok (.ifCond .eq 16, 3) := by decide +kernel
theorem D133_74 : decode prog_12_method_7_code 74 = .ok (.aload_n 0, 1) := by decide +kernel
theorem D133_75 : decode prog_12_method_7_code 75 = .ok (.dup, 1) := by decide +kernel
theorem D133_76 : decode prog_12_method_7_code 76 = .ok (.getfield 157, 3) := by decide +kernel
theorem D133_79 : decode prog_12_method_7_code 79 = .ok (.iconst 1, 1) := by decide +kernel
theorem D133_80 : decode prog_12_method_7_code 80 = .ok (.iadd, 1) := by decide +kernel
theorem D133_81 : decode prog_12_method_7_code 81 = .ok (.putfield 157, 3) := by decide +kernel
theorem D133_84 : decode prog_12_method_7_code 84 = .ok (.goto (-20), 3) := by decide +kernel
theorem D133_87 : decode prog_12_method_7_code 87 = .ok (.aload_n 0, 1) := by decide +kernel
theorem D133_88 : decode prog_12_method_7_code 88 = .ok (.aload_n 0, 1) := by decide +kernel
theorem D133_89 : decode prog_12_method_7_code 89 = .ok (.invokevirtual 177, 3) := by decide +kernel
theorem D133_92 : decode prog_12_method_7_code 92 = .ok (.putfield 180, 3) := by decide +kernel
theorem D133_95 : decode prog_12_method_7_code 95 = .ok (.aload_n 0, 1) := by decide +kernel
theorem D133_96 : decode prog_12_method_7_code 96 = .ok (.aload_n 0, 1) := by decide +kernel
theorem D133_97 : decode prog_12_method_7_code 97 = .ok (.getfield 180, 3) := by decide +kernel
theorem D133_100 : decode prog_12_method_7_code 100 = .ok (.iconst (-1), 1) := by decide +kernel
theorem D133_101 : decode prog_12_method_7_code 101 = .ok (.if_icmp .eq 7, 3) := by decide +kernel
theorem D133_104 : decode prog_12_method_7_code 104 = .ok (.iconst 0, 1) := by decide +kernel
theorem D133_105 : decode prog_12_method_7_code 105 = .ok (.goto 22, 3) := by decide +kernel
theorem D133_108 : decode prog_12_method_7_code 108 = .ok (.aload_n 0, 1) := by decide +kernel
theorem D133_109 : decode prog_12_method_7_code 109 = .ok (.getfield 157, 3) := by decide +kernel
theorem D133_112 : decode prog_12_method_7_code 112 = .ok (.aload_n 0, 1) := by decide +kernel
theorem D133_113 : decode prog_12_method_7_code 113 = .ok (.getfield 167, 3) := by decide +kernel
theorem D133_116 : decode prog_12_method_7_code 116 = .ok (.isub, 1) := by decide +kernel
theorem D133_117 : decode prog_12_method_7_code 117 = .ok (.bipush 6, 2) := by decide +kernel
theorem D133_119 : decode prog_12_method_7_code 119 = .ok (.if_icmp .le 7, 3) := by decide +kernel
theorem D133_122 : decode prog_12_method_7_code 122 = .ok (.iconst 5, 1) := by decide +kernel
theorem D133_123 : decode prog_12_method_7_code 123 = .ok (.goto 4, 3) := by decide +kernel
theorem D133_126 : decode prog_12_method_7_code 126 = .ok (.iconst 1, 1) := by decide +kernel
theorem D133_127 : decode prog_12_method_7_code 127 = .ok (.putfield 170, 3) := by decide +kernel
theorem D133_130 : decode prog_12_method_7_code 130 = .ok (.aload_n 0, 1) := by decide +kernel
theorem D133_131 : decode prog_12_method_7_code 131 = .ok (.getfield 170, 3) := by decide +kernel
theorem D133_134 : decode prog_12_method_7_code 134 = .ok (.iconst 1, 1) := by decide +kernel
theorem D133_135 : decode prog_12_method_7_code 135 = .ok (.if_icmp .ne 90, 3) := by decide +kernel
theorem D133_138 : decode prog_12_method_7_code 138 = .ok (.aload_n 0, 1) := by decide +kernel
theorem D133_139 : decode prog_12_method_7_code 139 = .ok (.invokevirtual 183, 3) := by decide +kernel
theorem D133_142 : decode prog_12_method_7_code 142 = .ok (.goto 83, 3) := by decide +kernel
theorem D133_145 : decode prog_12_method_7_code 145 = .ok (.iload_n 1, 1) := by decide +kernel
theorem D133_146 : decode prog_12_method_7_code 146 = .ok (.invokestatic 186, 3) := by decide +kernel
theorem D133_149 : decode prog_12_method_7_code 149 = .ok (.ifCond .eq 71, 3) := by decide +kernel
theorem D133_152 : decode prog_12_method_7_code 152 = .ok (.aload_n 0, 1) := by decide +kernel
theorem D133_153 : decode prog_12_method_7_code 153 = .ok (.iconst 2, 1) := by decide +kernel
theorem D133_154 : decode prog_12_method_7_code 154 = .ok (.putfield 170, 3) := by decide +kernel
theorem D133_157 : decode prog_12_method_7_code 157 = .ok (.aload_n 0, 1) := by decide +kernel
theorem D133_158 : decode prog_12_method_7_code 158 = .ok (.iconst 0, 1) := by decide +kernel
theorem D133_159 : decode prog_12_method_7_code 159 = .ok (.putfield 180, 3) := by decide +kernel
theorem D133_162 : decode prog_12_method_7_code 162 = .ok (.aload_n 0, 1) := by decide +kernel
theorem D133_163 : decode prog_12_method_7_code 163 = .ok (.invokevirtual 163, 3) := by decide +kernel
theorem D133_166 : decode prog_12_method_7_code 166 = .ok (.invokestatic 186, 3) := by decide +kernel
theorem D133_169 : decode prog_12_method_7_code 169 = .ok (.ifCond .eq 56, 3) := by decide +kernel
theorem D133_172 : decode prog_12_method_7_code 172 = .ok (.aload_n 0, 1) := by decide +kernel
theorem D133_173 : decode prog_12_method_7_code 173 = .ok (.aload_n 0, 1) := by decide +kernel
theorem D133_174 : decode prog_12_method_7_code 174 = .ok (.getfield 180, 3) := by decide +kernel
theorem D133_177 : decode prog_12_method_7_code 177 = .ok (.ldc 189, 2) := by decide +kernel
theorem D133_179 : decode prog_12_method_7_code 179 = .ok (.if_icmp .le 10, 3) := by decide +kernel
theorem D133_182 : decode prog_12_method_7_code 182 = .ok (.aload_n 0, 1) := by decide +kernel
theorem D133_183 : decode prog_12_method_7_code 183 = .ok (.getfield 180, 3) := by decide +kernel
theorem D133_186 : decode prog_12_method_7_code 186 = .ok (.goto 18, 3) := by decide +kernel
theorem D133_189 : decode prog_12_method_7_code 189 = .ok (.bipush 10, 2) := by decide +kernel
theorem D133_191 : decode prog_12_method_7_code 191 = .ok (.aload_n 0, 1) := by decide +kernel
theorem D133_192 : decode prog_12_method_7_code 192 = .ok (.getfield 180, 3) := by decide +kernel
theorem D133_195 : decode prog_12_method_7_code 195 = .ok (.imul, 1) := by decide +kernel
theorem D133_196 : decode prog_12_method_7_code 196 = .ok (.aload_n 0, 1) := by decide +kernel
theorem D133_197 : decode prog_12_method_7_code 197 = .ok (.invokevirtual 163, 3) := by decide +kernel
theorem D133_200 : decode prog_12_method_7_code 200 = .ok (.iadd, 1) := by decide +kernel
theorem D133_201 : decode prog_12_method_7_code 201 = .ok (.bipush 48, 2) := by decide +kernel
theorem D133_203 : decode prog_12_method_7_code 203 = .ok (.isub, 1) := by decide +kernel
theorem D133_204 : decode prog_12_method_7_code 204 = .ok (.putfield 180, 3) := by decide +kernel
theorem D133_207 : decode prog_12_method_7_code 207 = .ok (.aload_n 0, 1) := by decide +kernel
theorem D133_208 : decode prog_12_method_7_code 208 = .ok (.dup, 1) := by decide +kernel
theorem D133_209 : decode prog_12_method_7_code 209 = .ok (.getfield 157, 3) := by decide +kernel
theorem D133_212 : decode prog_12_method_7_code 212 = .ok (.iconst 1, 1) := by decide +kernel
theorem D133_213 : decode prog_12_method_7_code 213 = .ok (.iadd, 1) := by decide +kernel
theorem D133_214 : decode prog_12_method_7_code 214 = .ok (.putfield 157, 3) := by decide +kernel
theorem D133_217 : decode prog_12_method_7_code 217 = .ok (.goto (-55), 3) := by decide +kernel
theorem D133_220 : decode prog_12_method_7_code 220 = .ok (.aload_n 0, 1) := by decide +kernel
theorem D133_221 : decode prog_12_method_7_code 221 = .ok (.iload_n 1, 1) := by decide +kernel
theorem D133_222 : decode prog_12_method_7_code 222 = .ok (.invokevirtual 190, 3) := by decide +kernel
theorem D133_225 : decode prog_12_method_7_code 225 = .ok (.return_, 1) := by decide +kernel

theorem b133_0 {d : Nat}  {ia : Nat → Nat → Int32} {la : Nat → Nat → Int64} {pl dr : Nat} {cp : Option Nat} {cw : Option Nat} {rp : Option Nat} {K : Option Value → zHP → Prop}  : zWP (d + 1) 133 0 [some (.ref 127), none] [] (ia, la, zRA pl dr cp cw rp) K = zWM d 130 [.ref 127] (ia, la, zRA pl dr cp cw rp) (zK (d + 1) 133 4 [some (.ref 127), none] [] K) := by
  refine (Q_aload_n zm_133 (Or.inl (by decide)) D133_0 rfl).trans ?_
  exact Q_callv (as := []) (b := 127) (rest := []) zm_133 (Or.inl (by decide)) D133_1 zc_10_163 rfl zk_127.1 (by decide) (by decide +kernel) (by decide) (by simp [zcat, Value.category]) zm_130 rfl

theorem b133_4 {d : Nat} {s0 : Int32} {ia : Nat → Nat → Int32} {la : Nat → Nat → Int64} {pl dr : Nat} {cp : Option Nat} {cw : Option Nat} {rp : Option Nat} {K : Option Value → zHP → Prop}  : zWP (d + 1) 133 4 [some (.ref 127), none] [.int s0] (ia, la, zRA pl dr cp cw rp) K = (if s0 = (10 : Int32) then zWP (d + 1) 133 0 [some (.ref 127), none] [] ((zu ia 127 22 ((ia 127 22) + (1 : Int32))), la, zRA pl dr cp cw rp) K else zWM d 130 [.ref 127] (ia, la, zRA pl dr cp cw rp) (zK (d + 1) 133 13 [some (.ref 127), none] [] K)) := by
  refine (Q_bipush (v := 10) zm_133 (Or.inl (by decide)) D133_4 (by decide)).trans ?_
  refine (Q_ic_eq (tgt := 18) zm_133 (Or.inl (by decide)) D133_6 (by decide)).trans ?_
  refine zif_c (fun h0_ => ?_) (fun h0_ => ?_)
  · refine (Q_aload_n zm_133 (Or.inl (by decide)) D133_18 rfl).trans ?_
    refine (Q_dup zm_133 (Or.inl (by decide)) D133_19 rfl).trans ?_
    refine (Q_getI zm_133 (Or.inl (by decide)) D133_20 zf_10_157 (Or.inl zs_10_22) zk_127.1).trans ?_
    refine (Q_iconst (v := 1) zm_133 (Or.inl (by decide)) D133_23 (by decide)).trans ?_
    refine (Q_iadd zm_133 (Or.inl (by decide)) D133_24).trans ?_
    refine (Q_putI zm_133 (Or.inl (by decide)) D133_25 zf_10_157 zs_10_22 rfl zk_127.1).trans ?_
    refine (Q_goto (tgt := 0) zm_133 (Or.inl (by decide)) D133_28 (by decide)).trans ?_
    rfl
  · refine (Q_aload_n zm_133 (Or.inl (by decide)) D133_9 rfl).trans ?_
    exact Q_callv (as := []) (b := 127) (rest := []) zm_133 (Or.inl (by decide)) D133_10 zc_10_163 rfl zk_127.1 (by decide) (by decide +kernel) (by decide) (by simp [zcat, Value.category]) zm_130 rfl

theorem b133_13 {d : Nat} {s0 : Int32} {ia : Nat → Nat → Int32} {la : Nat → Nat → Int64} {pl dr : Nat} {cp : Option Nat} {cw : Option Nat} {rp : Option Nat} {K : Option Value → zHP → Prop}  : zWP (d + 1) 133 13 [some (.ref 127), none] [.int s0] (ia, la, zRA pl dr cp cw rp) K = (if ¬ s0 = (32 : Int32) then zWM d 130 [.ref 127] ((zu ia 127 23 (ia 127 22)), la, zRA pl dr cp cw rp) (zK (d + 1) 133 43 [some (.ref 127), none] [] K) else zWP (d + 1) 133 0 [some (.ref 127), none] [] ((zu ia 127 22 ((ia 127 22) + (1 : Int32))), la, zRA pl dr cp cw rp) K) := by
  refine (Q_bipush (v := 32) zm_133 (Or.inl (by decide)) D133_13 (by decide)).trans ?_
  refine (Q_ic_ne (tgt := 31) zm_133 (Or.inl (by decide)) D133_15 (by decide)).trans ?_
  refine zif_c (fun h0_ => ?_) (fun h0_ => ?_)
  · refine (Q_aload_n zm_133 (Or.inl (by decide)) D133_31 rfl).trans ?_
    refine (Q_aload_n zm_133 (Or.inl (by decide)) D133_32 rfl).trans ?_
    refine (Q_getI zm_133 (Or.inl (by decide)) D133_33 zf_10_157 (Or.inl zs_10_22) zk_127.1).trans ?_
    refine (Q_putI zm_133 (Or.inl (by decide)) D133_36 zf_10_167 zs_10_23 rfl zk_127.1).trans ?_
    refine (Q_aload_n zm_133 (Or.inl (by decide)) D133_39 rfl).trans ?_
    exact Q_callv (as := []) (b := 127) (rest := []) zm_133 (Or.inl (by decide)) D133_40 zc_10_163 rfl zk_127.1 (by decide) (by decide +kernel) (by decide) (by simp [zcat, Value.category]) zm_130 rfl
  · refine (Q_aload_n zm_133 (Or.inl (by decide)) D133_18 rfl).trans ?_
    refine (Q_dup zm_133 (Or.inl (by decide)) D133_19 rfl).trans ?_
    refine (Q_getI zm_133 (Or.inl (by decide)) D133_20 zf_10_157 (Or.inl zs_10_22) zk_127.1).trans ?_
    refine (Q_iconst (v := 1) zm_133 (Or.inl (by decide)) D133_23 (by decide)).trans ?_
    refine (Q_iadd zm_133 (Or.inl (by decide)) D133_24).trans ?_
    refine (Q_putI zm_133 (Or.inl (by decide)) D133_25 zf_10_157 zs_10_22 rfl zk_127.1).trans ?_
    refine (Q_goto (tgt := 0) zm_133 (Or.inl (by decide)) D133_28 (by decide)).trans ?_
    rfl

theorem b133_43 {d : Nat} {s0 : Int32} {ia : Nat → Nat → Int32} {la : Nat → Nat → Int64} {pl dr : Nat} {cp : Option Nat} {cw : Option Nat} {rp : Option Nat} {K : Option Value → zHP → Prop}  : zWP (d + 1) 133 43 [some (.ref 127), none] [.int s0] (ia, la, zRA pl dr cp cw rp) K = (if ¬ s0 = (-1 : Int32) then zWM d 131 [.int s0] (ia, la, zRA pl dr cp cw rp) (zK (d + 1) 133 61 [some (.ref 127), some (.int s0)] [] K) else K none ((zu ia 127 24 (4 : Int32)), la, zRA pl dr cp cw rp)) := by
  refine (Q_istore_n (ls' := [some (.ref 127), some (.int s0)]) zm_133 (Or.inl (by decide)) D133_43 rfl (Nat.le_of_ble_eq_true rfl) rfl).trans ?_
  refine (Q_iload_n zm_133 (Or.inl (by decide)) D133_44 rfl).trans ?_
  refine (Q_iconst (v := -1) zm_133 (Or.inl (by decide)) D133_45 (by decide)).trans ?_
  refine (Q_ic_ne (tgt := 57) zm_133 (Or.inl (by decide)) D133_46 (by decide)).trans ?_
  refine zif_c (fun h0_ => ?_) (fun h0_ => ?_)
  · refine (Q_iload_n zm_133 (Or.inl (by decide)) D133_57 rfl).trans ?_
    exact Q_calls (as := [.int s0]) (rest := []) zm_133 (Or.inl (by decide)) D133_58 zc_10_173 rfl (by decide) (by simp [zcat, Value.category]) zm_131 rfl
  · refine (Q_aload_n zm_133 (Or.inl (by decide)) D133_49 rfl).trans ?_
    refine (Q_iconst (v := 4) zm_133 (Or.inl (by decide)) D133_50 (by decide)).trans ?_
    refine (Q_putI zm_133 (Or.inl (by decide)) D133_51 zf_10_170 zs_10_24 rfl zk_127.1).trans ?_
    refine (Q_goto (tgt := 225) zm_133 (Or.inl (by decide)) D133_54 (by decide)).trans ?_
    exact Q_return zm_133 (Or.inl (by decide)) D133_225 rfl

theorem b133_61 {d : Nat} {i1 : Int32} {s0 : Int32} {ia : Nat → Nat → Int32} {la : Nat → Nat → Int64} {pl dr : Nat} {cp : Option Nat} {cw : Option Nat} {rp : Option Nat} {K : Option Value → zHP → Prop}  : zWP (d + 1) 133 61 [some (.ref 127), some (.int i1)] [.int s0] (ia, la, zRA pl dr cp cw rp) K = (if s0 = 0 then zWM d 132 [.int i1] (ia, la, zRA pl dr cp cw rp) (zK (d + 1) 133 149 [some (.ref 127), some (.int i1)] [] K) else zWP (d + 1) 133 64 [some (.ref 127), some (.int i1)] [] (ia, la, zRA pl dr cp cw rp) K) := by
  refine (Q_if_eq (tgt := 145) zm_133 (Or.inl (by decide)) D133_61 (by decide)).trans ?_
  refine zif_c (fun h0_ => ?_) (fun h0_ => ?_)
  · refine (Q_iload_n zm_133 (Or.inl (by decide)) D133_145 rfl).trans ?_
    exact Q_calls (as := [.int i1]) (rest := []) zm_133 (Or.inl (by decide)) D133_146 zc_10_186 rfl (by decide) (by simp [zcat, Value.category]) zm_132 rfl
  · rfl

theorem b133_149 {d : Nat} {i1 : Int32} {s0 : Int32} {ia : Nat → Nat → Int32} {la : Nat → Nat → Int64} {pl dr : Nat} {cp : Option Nat} {cw : Option Nat} {rp : Option Nat} {K : Option Value → zHP → Prop}  : zWP (d + 1) 133 149 [some (.ref 127), some (.int i1)] [.int s0] (ia, la, zRA pl dr cp cw rp) K = (if s0 = 0 then zWM d 134 [.ref 127, .int i1] (ia, la, zRA pl dr cp cw rp) (zK (d + 1) 133 225 [some (.ref 127), some (.int i1)] [] K) else zWP (d + 1) 133 162 [some (.ref 127), some (.int i1)] [] ((zu (zu ia 127 24 (2 : Int32)) 127 25 (0 : Int32)), la, zRA pl dr cp cw rp) K) := by
  refine (Q_if_eq (tgt := 220) zm_133 (Or.inl (by decide)) D133_149 (by decide)).trans ?_
  refine zif_c (fun h0_ => ?_) (fun h0_ => ?_)
  · refine (Q_aload_n zm_133 (Or.inl (by decide)) D133_220 rfl).trans ?_
    refine (Q_iload_n zm_133 (Or.inl (by decide)) D133_221 rfl).trans ?_
    exact Q_callv (as := [.int i1]) (b := 127) (rest := []) zm_133 (Or.inl (by decide)) D133_222 zc_10_190 rfl zk_127.1 (by decide) (by decide +kernel) (by decide) (by simp [zcat, Value.category]) zm_134 rfl
  · refine (Q_aload_n zm_133 (Or.inl (by decide)) D133_152 rfl).trans ?_
    refine (Q_iconst (v := 2) zm_133 (Or.inl (by decide)) D133_153 (by decide)).trans ?_
    refine (Q_putI zm_133 (Or.inl (by decide)) D133_154 zf_10_170 zs_10_24 rfl zk_127.1).trans ?_
    refine (Q_aload_n zm_133 (Or.inl (by decide)) D133_157 rfl).trans ?_
    refine (Q_iconst (v := 0) zm_133 (Or.inl (by decide)) D133_158 (by decide)).trans ?_
    refine (Q_putI zm_133 (Or.inl (by decide)) D133_159 zf_10_180 zs_10_25 rfl zk_127.1).trans ?_
    rfl

theorem b133_64 {d : Nat} {i1 : Int32} {ia : Nat → Nat → Int32} {la : Nat → Nat → Int64} {pl dr : Nat} {cp : Option Nat} {cw : Option Nat} {rp : Option Nat} {K : Option Value → zHP → Prop}  : zWP (d + 1) 133 64 [some (.ref 127), some (.int i1)] [] (ia, la, zRA pl dr cp cw rp) K = zWM d 130 [.ref 127] (ia, la, zRA pl dr cp cw rp) (zK (d + 1) 133 68 [some (.ref 127), some (.int i1)] [] K) := by
  refine (Q_aload_n zm_133 (Or.inl (by decide)) D133_64 rfl).trans ?_
  exact Q_callv (as := []) (b := 127) (rest := []) zm_133 (Or.inl (by decide)) D133_65 zc_10_163 rfl zk_127.1 (by decide) (by decide +kernel) (by decide) (by simp [zcat, Value.category]) zm_130 rfl

theorem b133_225 {d : Nat} {i1 : Int32} {ia : Nat → Nat → Int32} {la : Nat → Nat → Int64} {pl dr : Nat} {cp : Option Nat} {cw : Option Nat} {rp : Option Nat} {K : Option Value → zHP → Prop}  : zWP d 133 225 [some (.ref 127), some (.int i1)] [] (ia, la, zRA pl dr cp cw rp) K = K none (ia, la, zRA pl dr cp cw rp) := by
  exact Q_return zm_133 (Or.inl (by decide)) D133_225 rfl

theorem b133_162 {d : Nat} {i1 : Int32} {ia : Nat → Nat → Int32} {la : Nat → Nat → Int64} {pl dr : Nat} {cp : Option Nat} {cw : Option Nat} {rp : Option Nat} {K : Option Value → zHP → Prop}  : zWP (d + 1) 133 162 [some (.ref 127), some (.int i1)] [] (ia, la, zRA pl dr cp cw rp) K = zWM d 130 [.ref 127] (ia, la, zRA pl dr cp cw rp) (zK (d + 1) 133 166 [some (.ref 127), some (.int i1)] [] K) := by
  refine (Q_aload_n zm_133 (Or.inl (by decide)) D133_162 rfl).trans ?_
  exact Q_callv (as := []) (b := 127) (rest := []) zm_133 (Or.inl (by decide)) D133_163 zc_10_163 rfl zk_127.1 (by decide) (by decide +kernel) (by decide) (by simp [zcat, Value.category]) zm_130 rfl

theorem b133_68 {d : Nat} {i1 : Int32} {s0 : Int32} {ia : Nat → Nat → Int32} {la : Nat → Nat → Int64} {pl dr : Nat} {cp : Option Nat} {cw : Option Nat} {rp : Option Nat} {K : Option Value → zHP → Prop}  : zWP (d + 1) 133 68 [some (.ref 127), some (.int i1)] [.int s0] (ia, la, zRA pl dr cp cw rp) K = zWM d 131 [.int s0] (ia, la, zRA pl dr cp cw rp) (zK (d + 1) 133 71 [some (.ref 127), some (.int i1)] [] K) := by
  exact Q_calls (as := [.int s0]) (rest := []) zm_133 (Or.inl (by decide)) D133_68 zc_10_173 rfl (by decide) (by simp [zcat, Value.category]) zm_131 rfl

theorem b133_166 {d : Nat} {i1 : Int32} {s0 : Int32} {ia : Nat → Nat → Int32} {la : Nat → Nat → Int64} {pl dr : Nat} {cp : Option Nat} {cw : Option Nat} {rp : Option Nat} {K : Option Value → zHP → Prop}  : zWP (d + 1) 133 166 [some (.ref 127), some (.int i1)] [.int s0] (ia, la, zRA pl dr cp cw rp) K = zWM d 132 [.int s0] (ia, la, zRA pl dr cp cw rp) (zK (d + 1) 133 169 [some (.ref 127), some (.int i1)] [] K) := by
  exact Q_calls (as := [.int s0]) (rest := []) zm_133 (Or.inl (by decide)) D133_166 zc_10_186 rfl (by decide) (by simp [zcat, Value.category]) zm_132 rfl

theorem b133_71 {d : Nat} {i1 : Int32} {s0 : Int32} {ia : Nat → Nat → Int32} {la : Nat → Nat → Int64} {pl dr : Nat} {cp : Option Nat} {cw : Option Nat} {rp : Option Nat} {K : Option Value → zHP → Prop}  : zWP (d + 1) 133 71 [some (.ref 127), some (.int i1)] [.int s0] (ia, la, zRA pl dr cp cw rp) K = (if s0 = 0 then zWM d 135 [.ref 127] (ia, la, zRA pl dr cp cw rp) (zK (d + 1) 133 92 [some (.ref 127), some (.int i1)] [.ref 127] K) else zWP (d + 1) 133 64 [some (.ref 127), some (.int i1)] [] ((zu ia 127 22 ((ia 127 22) + (1 : Int32))), la, zRA pl dr cp cw rp) K) := by
  refine (Q_if_eq (tgt := 87) zm_133 (Or.inl (by decide)) D133_71 (by decide)).trans ?_
  refine zif_c (fun h0_ => ?_) (fun h0_ => ?_)
  · refine (Q_aload_n zm_133 (Or.inl (by decide)) D133_87 rfl).trans ?_
    refine (Q_aload_n zm_133 (Or.inl (by decide)) D133_88 rfl).trans ?_
    exact Q_callv (as := []) (b := 127) (rest := [.ref 127]) zm_133 (Or.inl (by decide)) D133_89 zc_10_177 rfl zk_127.1 (by decide) (by decide +kernel) (by decide) (by simp [zcat, Value.category]) zm_135 rfl
  · refine (Q_aload_n zm_133 (Or.inl (by decide)) D133_74 rfl).trans ?_
    refine (Q_dup zm_133 (Or.inl (by decide)) D133_75 rfl).trans ?_
    refine (Q_getI zm_133 (Or.inl (by decide)) D133_76 zf_10_157 (Or.inl zs_10_22) zk_127.1).trans ?_
    refine (Q_iconst (v := 1) zm_133 (Or.inl (by decide)) D133_79 (by decide)).trans ?_
    refine (Q_iadd zm_133 (Or.inl (by decide)) D133_80).trans ?_
    refine (Q_putI zm_133 (Or.inl (by decide)) D133_81 zf_10_157 zs_10_22 rfl zk_127.1).trans ?_
    refine (Q_goto (tgt := 64) zm_133 (Or.inl (by decide)) D133_84 (by decide)).trans ?_
    rfl

theorem b133_169 {d : Nat} {i1 : Int32} {s0 : Int32} {ia : Nat → Nat → Int32} {la : Nat → Nat → Int64} {pl dr : Nat} {cp : Option Nat} {cw : Option Nat} {rp : Option Nat} {K : Option Value → zHP → Prop}  : zWP (d + 1) 133 169 [some (.ref 127), some (.int i1)] [.int s0] (ia, la, zRA pl dr cp cw rp) K = (if s0 = 0 then K none (ia, la, zRA pl dr cp cw rp) else (if (ia 127 25) ≤ (99999 : Int32) then zWM d 130 [.ref 127] (ia, la, zRA pl dr cp cw rp) (zK (d + 1) 133 200 [some (.ref 127), some (.int i1)] [.int ((10 : Int32) * (ia 127 25)), .ref 127] K) else zWP (d + 1) 133 162 [some (.ref 127), some (.int i1)] [] ((zu (zu ia 127 25 (ia 127 25)) 127 22 (((zu ia 127 25 (ia 127 25)) 127 22) + (1 : Int32))), la, zRA pl dr cp cw rp) K)) := by
  refine (Q_if_eq (tgt := 225) zm_133 (Or.inl (by decide)) D133_169 (by decide)).trans ?_
  refine zif_c (fun h0_ => ?_) (fun h0_ => ?_)
  · exact Q_return zm_133 (Or.inl (by decide)) D133_225 rfl
  · refine (Q_aload_n zm_133 (Or.inl (by decide)) D133_172 rfl).trans ?_
    refine (Q_aload_n zm_133 (Or.inl (by decide)) D133_173 rfl).trans ?_
    refine (Q_getI zm_133 (Or.inl (by decide)) D133_174 zf_10_180 (Or.inl zs_10_25) zk_127.1).trans ?_
    refine (Q_ldc (v := 99999) zm_133 (Or.inl (by decide)) D133_177 (by decide +kernel)).trans ?_
    refine (Q_ic_le (tgt := 189) zm_133 (Or.inl (by decide)) D133_179 (by decide)).trans ?_
    refine zif_c (fun h1_ => ?_) (fun h1_ => ?_)
    · refine (Q_bipush (v := 10) zm_133 (Or.inl (by decide)) D133_189 (by decide)).trans ?_
      refine (Q_aload_n zm_133 (Or.inl (by decide)) D133_191 rfl).trans ?_
      refine (Q_getI zm_133 (Or.inl (by decide)) D133_192 zf_10_180 (Or.inl zs_10_25) zk_127.1).trans ?_
      refine (Q_imul zm_133 (Or.inl (by decide)) D133_195).trans ?_
      refine (Q_aload_n zm_133 (Or.inl (by decide)) D133_196 rfl).trans ?_
      exact Q_callv (as := []) (b := 127) (rest := [.int ((10 : Int32) * (ia 127 25)), .ref 127]) zm_133 (Or.inl (by decide)) D133_197 zc_10_163 rfl zk_127.1 (by decide) (by decide +kernel) (by decide) (by simp [zcat, Value.category]) zm_130 rfl
    · refine (Q_aload_n zm_133 (Or.inl (by decide)) D133_182 rfl).trans ?_
      refine (Q_getI zm_133 (Or.inl (by decide)) D133_183 zf_10_180 (Or.inl zs_10_25) zk_127.1).trans ?_
      refine (Q_goto (tgt := 204) zm_133 (Or.inl (by decide)) D133_186 (by decide)).trans ?_
      refine (Q_putI zm_133 (Or.inl (by decide)) D133_204 zf_10_180 zs_10_25 rfl zk_127.1).trans ?_
      refine (Q_aload_n zm_133 (Or.inl (by decide)) D133_207 rfl).trans ?_
      refine (Q_dup zm_133 (Or.inl (by decide)) D133_208 rfl).trans ?_
      refine (Q_getI zm_133 (Or.inl (by decide)) D133_209 zf_10_157 (Or.inl zs_10_22) zk_127.1).trans ?_
      refine (Q_iconst (v := 1) zm_133 (Or.inl (by decide)) D133_212 (by decide)).trans ?_
      refine (Q_iadd zm_133 (Or.inl (by decide)) D133_213).trans ?_
      refine (Q_putI zm_133 (Or.inl (by decide)) D133_214 zf_10_157 zs_10_22 rfl zk_127.1).trans ?_
      refine (Q_goto (tgt := 162) zm_133 (Or.inl (by decide)) D133_217 (by decide)).trans ?_
      rfl

theorem b133_92 {d : Nat} {i1 : Int32} {s1 : Int32} {ia : Nat → Nat → Int32} {la : Nat → Nat → Int64} {pl dr : Nat} {cp : Option Nat} {cw : Option Nat} {rp : Option Nat} {K : Option Value → zHP → Prop}  : zWP (d + 1) 133 92 [some (.ref 127), some (.int i1)] [.int s1, .ref 127] (ia, la, zRA pl dr cp cw rp) K = (if ((zu ia 127 25 s1) 127 25) = (-1 : Int32) then (if (((zu ia 127 25 s1) 127 22) - ((zu ia 127 25 s1) 127 23)) ≤ (6 : Int32) then (if ¬ ((zu (zu ia 127 25 s1) 127 24 (1 : Int32)) 127 24) = (1 : Int32) then K none ((zu (zu ia 127 25 s1) 127 24 (1 : Int32)), la, zRA pl dr cp cw rp) else zWM d 136 [.ref 127] ((zu (zu ia 127 25 s1) 127 24 (1 : Int32)), la, zRA pl dr cp cw rp) (zK (d + 1) 133 142 [some (.ref 127), some (.int i1)] [] K)) else (if ¬ ((zu (zu ia 127 25 s1) 127 24 (5 : Int32)) 127 24) = (1 : Int32) then K none ((zu (zu ia 127 25 s1) 127 24 (5 : Int32)), la, zRA pl dr cp cw rp) else zWM d 136 [.ref 127] ((zu (zu ia 127 25 s1) 127 24 (5 : Int32)), la, zRA pl dr cp cw rp) (zK (d + 1) 133 142 [some (.ref 127), some (.int i1)] [] K))) else (if ¬ ((zu (zu ia 127 25 s1) 127 24 (0 : Int32)) 127 24) = (1 : Int32) then K none ((zu (zu ia 127 25 s1) 127 24 (0 : Int32)), la, zRA pl dr cp cw rp) else zWM d 136 [.ref 127] ((zu (zu ia 127 25 s1) 127 24 (0 : Int32)), la, zRA pl dr cp cw rp) (zK (d + 1) 133 142 [some (.ref 127), some (.int i1)] [] K))) := by
  refine (Q_putI zm_133 (Or.inl (by decide)) D133_92 zf_10_180 zs_10_25 rfl zk_127.1).trans ?_
  refine (Q_aload_n zm_133 (Or.inl (by decide)) D133_95 rfl).trans ?_
  refine (Q_aload_n zm_133 (Or.inl (by decide)) D133_96 rfl).trans ?_
  refine (Q_getI zm_133 (Or.inl (by decide)) D133_97 zf_10_180 (Or.inl zs_10_25) zk_127.1).trans ?_
  refine (Q_iconst (v := -1) zm_133 (Or.inl (by decide)) D133_100 (by decide)).trans ?_
  refine (Q_ic_eq (tgt := 108) zm_133 (Or.inl (by decide)) D133_101 (by decide)).trans ?_
  refine zif_c (fun h0_ => ?_) (fun h0_ => ?_)
  · refine (Q_aload_n zm_133 (Or.inl (by decide)) D133_108 rfl).trans ?_
    refine (Q_getI zm_133 (Or.inl (by decide)) D133_109 zf_10_157 (Or.inl zs_10_22) zk_127.1).trans ?_
    refine (Q_aload_n zm_133 (Or.inl (by decide)) D133_112 rfl).trans ?_
    refine (Q_getI zm_133 (Or.inl (by decide)) D133_113 zf_10_167 (Or.inl zs_10_23) zk_127.1).trans ?_
    refine (Q_isub zm_133 (Or.inl (by decide)) D133_116).trans ?_
    refine (Q_bipush (v := 6) zm_133 (Or.inl (by decide)) D133_117 (by decide)).trans ?_
    refine (Q_ic_le (tgt := 126) zm_133 (Or.inl (by decide)) D133_119 (by decide)).trans ?_
    refine zif_c (fun h1_ => ?_) (fun h1_ => ?_)
    · refine (Q_iconst (v := 1) zm_133 (Or.inl (by decide)) D133_126 (by decide)).trans ?_
      refine (Q_putI zm_133 (Or.inl (by decide)) D133_127 zf_10_170 zs_10_24 rfl zk_127.1).trans ?_
      refine (Q_aload_n zm_133 (Or.inl (by decide)) D133_130 rfl).trans ?_
      refine (Q_getI zm_133 (Or.inl (by decide)) D133_131 zf_10_170 (Or.inl zs_10_24) zk_127.1).trans ?_
      refine (Q_iconst (v := 1) zm_133 (Or.inl (by decide)) D133_134 (by decide)).trans ?_
      refine (Q_ic_ne (tgt := 225) zm_133 (Or.inl (by decide)) D133_135 (by decide)).trans ?_
      refine zif_c (fun h2_ => ?_) (fun h2_ => ?_)
      · exact Q_return zm_133 (Or.inl (by decide)) D133_225 rfl
      · refine (Q_aload_n zm_133 (Or.inl (by decide)) D133_138 rfl).trans ?_
        exact Q_callv (as := []) (b := 127) (rest := []) zm_133 (Or.inl (by decide)) D133_139 zc_10_183 rfl zk_127.1 (by decide) (by decide +kernel) (by decide) (by simp [zcat, Value.category]) zm_136 rfl
    · refine (Q_iconst (v := 5) zm_133 (Or.inl (by decide)) D133_122 (by decide)).trans ?_
      refine (Q_goto (tgt := 127) zm_133 (Or.inl (by decide)) D133_123 (by decide)).trans ?_
      refine (Q_putI zm_133 (Or.inl (by decide)) D133_127 zf_10_170 zs_10_24 rfl zk_127.1).trans ?_
      refine (Q_aload_n zm_133 (Or.inl (by decide)) D133_130 rfl).trans ?_
      refine (Q_getI zm_133 (Or.inl (by decide)) D133_131 zf_10_170 (Or.inl zs_10_24) zk_127.1).trans ?_
      refine (Q_iconst (v := 1) zm_133 (Or.inl (by decide)) D133_134 (by decide)).trans ?_
      refine (Q_ic_ne (tgt := 225) zm_133 (Or.inl (by decide)) D133_135 (by decide)).trans ?_
      refine zif_c (fun h3_ => ?_) (fun h3_ => ?_)
      · exact Q_return zm_133 (Or.inl (by decide)) D133_225 rfl
      · refine (Q_aload_n zm_133 (Or.inl (by decide)) D133_138 rfl).trans ?_
        exact Q_callv (as := []) (b := 127) (rest := []) zm_133 (Or.inl (by decide)) D133_139 zc_10_183 rfl zk_127.1 (by decide) (by decide +kernel) (by decide) (by simp [zcat, Value.category]) zm_136 rfl
  · refine (Q_iconst (v := 0) zm_133 (Or.inl (by decide)) D133_104 (by decide)).trans ?_
    refine (Q_goto (tgt := 127) zm_133 (Or.inl (by decide)) D133_105 (by decide)).trans ?_
    refine (Q_putI zm_133 (Or.inl (by decide)) D133_127 zf_10_170 zs_10_24 rfl zk_127.1).trans ?_
    refine (Q_aload_n zm_133 (Or.inl (by decide)) D133_130 rfl).trans ?_
    refine (Q_getI zm_133 (Or.inl (by decide)) D133_131 zf_10_170 (Or.inl zs_10_24) zk_127.1).trans ?_
    refine (Q_iconst (v := 1) zm_133 (Or.inl (by decide)) D133_134 (by decide)).trans ?_
    refine (Q_ic_ne (tgt := 225) zm_133 (Or.inl (by decide)) D133_135 (by decide)).trans ?_
    refine zif_c (fun h4_ => ?_) (fun h4_ => ?_)
    · exact Q_return zm_133 (Or.inl (by decide)) D133_225 rfl
    · refine (Q_aload_n zm_133 (Or.inl (by decide)) D133_138 rfl).trans ?_
      exact Q_callv (as := []) (b := 127) (rest := []) zm_133 (Or.inl (by decide)) D133_139 zc_10_183 rfl zk_127.1 (by decide) (by decide +kernel) (by decide) (by simp [zcat, Value.category]) zm_136 rfl

theorem b133_200 {d : Nat} {i1 : Int32} {s1 : Int32} {s2 : Int32} {ia : Nat → Nat → Int32} {la : Nat → Nat → Int64} {pl dr : Nat} {cp : Option Nat} {cw : Option Nat} {rp : Option Nat} {K : Option Value → zHP → Prop}  : zWP d 133 200 [some (.ref 127), some (.int i1)] [.int s2, .int s1, .ref 127] (ia, la, zRA pl dr cp cw rp) K = zWP d 133 162 [some (.ref 127), some (.int i1)] [] ((zu (zu ia 127 25 ((s1 + s2) - (48 : Int32))) 127 22 (((zu ia 127 25 ((s1 + s2) - (48 : Int32))) 127 22) + (1 : Int32))), la, zRA pl dr cp cw rp) K := by
  refine (Q_iadd zm_133 (Or.inl (by decide)) D133_200).trans ?_
  refine (Q_bipush (v := 48) zm_133 (Or.inl (by decide)) D133_201 (by decide)).trans ?_
  refine (Q_isub zm_133 (Or.inl (by decide)) D133_203).trans ?_
  refine (Q_putI zm_133 (Or.inl (by decide)) D133_204 zf_10_180 zs_10_25 rfl zk_127.1).trans ?_
  refine (Q_aload_n zm_133 (Or.inl (by decide)) D133_207 rfl).trans ?_
  refine (Q_dup zm_133 (Or.inl (by decide)) D133_208 rfl).trans ?_
  refine (Q_getI zm_133 (Or.inl (by decide)) D133_209 zf_10_157 (Or.inl zs_10_22) zk_127.1).trans ?_
  refine (Q_iconst (v := 1) zm_133 (Or.inl (by decide)) D133_212 (by decide)).trans ?_
  refine (Q_iadd zm_133 (Or.inl (by decide)) D133_213).trans ?_
  refine (Q_putI zm_133 (Or.inl (by decide)) D133_214 zf_10_157 zs_10_22 rfl zk_127.1).trans ?_
  refine (Q_goto (tgt := 162) zm_133 (Or.inl (by decide)) D133_217 (by decide)).trans ?_
  rfl

theorem b133_142 {d : Nat} {i1 : Int32} {ia : Nat → Nat → Int32} {la : Nat → Nat → Int64} {pl dr : Nat} {cp : Option Nat} {cw : Option Nat} {rp : Option Nat} {K : Option Value → zHP → Prop}  : zWP d 133 142 [some (.ref 127), some (.int i1)] [] (ia, la, zRA pl dr cp cw rp) K = K none (ia, la, zRA pl dr cp cw rp) := by
  refine (Q_goto (tgt := 225) zm_133 (Or.inl (by decide)) D133_142 (by decide)).trans ?_
  exact Q_return zm_133 (Or.inl (by decide)) D133_225 rfl
