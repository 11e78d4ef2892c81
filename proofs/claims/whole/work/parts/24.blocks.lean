/-! HandsLetModel.sign(I)V -/
theorem D134_0 : decode prog_12_method_8_code 0 = .ok (.aload_n 0, 1) := by decide +kernel
theorem D134_1 : decode prog_12_method_8_code 1 = .ok (.dup, 1) := by decide +kernel
theorem D134_2 : decode prog_12_method_8_code 2 = .ok (.getfield 157, 3) := by decide +kernel
theorem D134_5 : decode prog_12_method_8_code 5 = .ok (.iconst 1, 1) := by decide +kernel
theorem D134_6 : decode prog_12_method_8_code 6 = .ok (.iadd, 1) := by decide +kernel
theorem D134_7 : decode prog_12_method_8_code 7 = .ok (.putfield 157, 3) := by decide +kernel
theorem D134_10 : decode prog_12_method_8_code 10 = .ok (.aload_n 0, 1) := by decide +kernel
theorem D134_11 : decode prog_12_method_8_code 11 = .ok (.iload_n 1, 1) := by decide +kernel
theorem D134_12 : decode prog_12_method_8_code 12 = .ok (.bipush 59, 2) := by decide +kernel
theorem D134_14 : decode prog_12_method_8_code 14 = .ok (.if_icmp .eq 57, 3) := by decide +kernel
theorem D134_17 : decode prog_12_method_8_code 17 = .ok (.iload_n 1, 1) := by decide +kernel
theorem D134_18 : decode prog_12_method_8_code 18 = .ok (.bipush 40, 2) := by decide +kernel
theorem D134_20 : decode prog_12_method_8_code 20 = .ok (.if_icmp .eq 51, 3) := by decide +kernel
theorem D134_23 : decode prog_12_method_8_code 23 = .ok (.iload_n 1, 1) := by decide +kernel
theorem D134_24 : decode prog_12_method_8_code 24 = .ok (.bipush 41, 2) := by decide +kernel
theorem D134_26 : decode prog_12_method_8_code 26 = .ok (.if_icmp .eq 45, 3) := by decide +kernel
theorem D134_29 : decode prog_12_method_8_code 29 = .ok (.iload_n 1, 1) := by decide +kernel
theorem D134_30 : decode prog_12_method_8_code 30 = .ok (.bipush 43, 2) := by decide +kernel
theorem D134_32 : decode prog_12_method_8_code 32 = .ok (.if_icmp .eq 39, 3) := by decide +kernel
theorem D134_35 : decode prog_12_method_8_code 35 = .ok (.iload_n 1, 1) := by decide +kernel
theorem D134_36 : decode prog_12_method_8_code 36 = .ok (.bipush 45, 2) := by decide +kernel
theorem D134_38 : decode prog_12_method_8_code 38 = .ok (.if_icmp .eq 33, 3) := by decide +kernel
theorem D134_41 : decode prog_12_method_8_code 41 = .ok (.iload_n 1, 1) := by decide +kernel
theorem D134_42 : decode prog_12_method_8_code 42 = .ok (.bipush 42, 2) := by decide +kernel
theorem D134_44 : decode prog_12_method_8_code 44 = .ok (.if_icmp .eq 27, 3) := by decide +kernel
theorem D134_47 : decode prog_12_method_8_code 47 = .ok (.iload_n 1, 1) := by decide +kernel
theorem D134_48 : decode prog_12_method_8_code 48 = .ok (.bipush 47, 2) := by decide +kernel
theorem D134_50 : decode prog_12_method_8_code 50 = .ok (.if_icmp .eq 21, 3) := by decide +kernel
theorem D134_53 : decode prog_12_method_8_code 53 = .ok (.iload_n 1, 1) := by decide +kernel
theorem D134_54 : decode prog_12_method_8_code 54 = .ok (.bipush 60, 2) := by decide +kernel
theorem D134_56 : decode prog_12_method_8_code 56 = .ok (.if_icmp .eq 15, 3) := by decide +kernel
theorem D134_59 : decode prog_12_method_8_code 59 = .ok (.iload_n 1, 1) := by decide +kernel
theorem D134_60 : decode prog_12_method_8_code 60 = .ok (.bipush 61, 2) := by decide +kernel
theorem D134_62 : decode prog_12_method_8_code 62 = .ok (.if_icmp .eq 9, 3) := by decide +kernel
theorem D134_65 : decode prog_12_method_8_code 65 = .ok (.iload_n 1, 1) := by decide +kernel
theorem D134_66 : decode prog_12_method_8_code 66 = .ok (.bipush 62, 2) := by decide +kernel
theorem D134_68 : decode prog_12_method_8_code 68 = .ok (.if_icmp .ne 7, 3) := by decide +kernel
theorem D134_71 : decode prog_12_method_8_code 71 = .ok (.iconst 3, 1) := by decide +kernel
theorem D134_72 : decode prog_12_method_8_code 72 = .ok (.goto 4, 3) := by decide +kernel
theorem D134_75 : decode prog_12_method_8_code 75 = .ok (.iconst 5, 1) := by decide +kernel
theorem D134_76 : decode prog_12_method_8_code 76 = .ok (.putfield 170, 3) := by decide +kernel
theorem D134_79 : decode prog_12_method_8_code 79 = .ok (.aload_n 0, 1) := by decide +kernel
theorem D134_80 : decode prog_12_method_8_code 80 = .ok (.iload_n 1, 1) := by decide +kernel
theorem D134_81 : decode prog_12_method_8_code 81 = .ok (.putfield 180, 3) := by decide +kernel
theorem D134_84 : decode prog_12_method_8_code 84 = .ok (.iload_n 1, 1) := by decide +kernel
theorem D134_85 : decode prog_12_method_8_code 85 = .ok (.bipush 60, 2) := by decide +kernel
theorem D134_87 : decode prog_12_method_8_code 87 = .ok (.if_icmp .ne 19, 3) := by decide +kernel
theorem D134_90 : decode prog_12_method_8_code 90 = .ok (.aload_n 0, 1) := by decide +kernel
theorem D134_91 : decode prog_12_method_8_code 91 = .ok (.invokevirtual 163, 3) := by decide +kernel
theorem D134_94 : decode prog_12_method_8_code 94 = .ok (.bipush 61, 2) := by decide +kernel
theorem D134_96 : decode prog_12_method_8_code 96 = .ok (.if_icmp .ne 10, 3) := by decide +kernel
theorem D134_99 : decode prog_12_method_8_code 99 = .ok (.aload_n 0, 1) := by decide +kernel
theorem D134_100 : decode prog_12_method_8_code 100 = .ok (.sipush 256, 3) := by decide +kernel
theorem D134_103 : decode prog_12_method_8_code 103 = .ok (.putfield 180, 3) := by decide +kernel
theorem D134_106 : decode prog_12_method_8_code 106 = .ok (.iload_n 1, 1) := by decide +kernel
theorem D134_107 : decode prog_12_method_8_code 107 = .ok (.bipush 60, 2) := by decide +kernel
theorem D134_109 : decode prog_12_method_8_code 109 = .ok (.if_icmp .ne 19, 3) := by decide +kernel
theorem D134_112 : decode prog_12_method_8_code 112 = .ok (.aload_n 0, 1) := by decide +kernel
theorem D134_113 : decode prog_12_method_8_code 113 = .ok (.invokevirtual 163, 3) := by decide +kernel
theorem D134_116 : decode prog_12_method_8_code 116 = .ok (.bipush 62, 2) := by decide +kernel
theorem D134_118 : decode prog_12_method_8_code 118 = .ok (.if_icmp .ne 10, 3) := by decide +kernel
theorem D134_121 : decode prog_12_method_8_code 121 = .ok (.aload_n 0, 1) := by decide +kernel
theorem D134_122 : decode prog_12_method_8_code 122 = .ok (.sipush 257, 3) := by decide +kernel
theorem D134_125 : decode prog_12_method_8_code 125 = .ok (.putfield 180, 3) := by decide +kernel
theorem D134_128 : decode prog_12_method_8_code 128 = .ok (.iload_n 1, 1) := by decide +kernel
theorem D134_129 : decode prog_12_method_8_code 129 = .ok (.bipush 62, 2) := by decide +kernel
theorem D134_131 : decode prog_12_method_8_code 131 = .ok (.if_icmp .ne 19, 3) := by decide +kernel
theorem D134_134 : decode prog_12_method_8_code 134 = .ok (.aload_n 0, 1) := by decide +kernel
theorem D134_135 : decode prog_12_method_8_code 135 = .ok (.invokevirtual 163, 3) := by decide +kernel
theorem D134_138 : decode prog_12_method_8_code 138 = .ok (.bipush 61, 2) := by decide +kernel
theorem D134_140 : decode prog_12_method_8_code 140 = .ok (.if_icmp .ne 10, 3) := by decide +kernel
theorem D134_143 : decode prog_12_method_8_code 143 = .ok (.aload_n 0, 1) := by decide +kernel
theorem D134_144 : decode prog_12_method_8_code 144 = .ok (.sipush 258, 3) := by decide +kernel
theorem D134_147 : decode prog_12_method_8_code 147 = .ok (.putfield 180, 3) := by decide +kernel
theorem D134_150 : decode prog_12_method_8_code 150 = .ok (.aload_n 0, 1) := by decide +kernel
theorem D134_151 : decode prog_12_method_8_code 151 = .ok (.getfield 180, 3) := by decide +kernel
theorem D134_154 : decode prog_12_method_8_code 154 = .ok (.sipush 256, 3) := by decide +kernel
theorem D134_157 : decode prog_12_method_8_code 157 = .ok (.if_icmp .lt 13, 3) := by decide +kernel
theorem D134_160 : decode prog_12_method_8_code 160 = .ok (.aload_n 0, 1) := by decide +kernel
theorem D134_161 : decode prog_12_method_8_code 161 = .ok (.dup, 1) := by decide +kernel
theorem D134_162 : decode prog_12_method_8_code 162 = .ok (.getfield 157, 3) := by decide +kernel
theorem D134_165 : decode prog_12_method_8_code 165 = .ok (.iconst 1, 1) := by decide +kernel
theorem D134_166 : decode prog_12_method_8_code 166 = .ok (.iadd, 1) := by decide +kernel
theorem D134_167 : decode prog_12_method_8_code 167 = .ok (.putfield 157, 3) := by decide +kernel
theorem D134_170 : decode prog_12_method_8_code 170 = .ok (.return_, 1) := by decide +kernel

theorem b134_0 {d : Nat} {i1 : Int32} {ia : Nat → Nat → Int32} {la : Nat → Nat → Int64} {pl dr : Nat} {cp : Option Nat} {cw : Option Nat} {rp : Option Nat} {K : Option Value → zHP → Prop}  : zWP d 134 0 [some (.ref 127), some (.int i1)] [] (ia, la, zRA pl dr cp cw rp) K = (if i1 = (59 : Int32) then zWP d 134 71 [some (.ref 127), some (.int i1)] [.ref 127] ((zu ia 127 22 ((ia 127 22) + (1 : Int32))), la, zRA pl dr cp cw rp) K else (if i1 = (40 : Int32) then zWP d 134 71 [some (.ref 127), some (.int i1)] [.ref 127] ((zu ia 127 22 ((ia 127 22) + (1 : Int32))), la, zRA pl dr cp cw rp) K else (if i1 = (41 : Int32) then zWP d 134 71 [some (.ref 127), some (.int i1)] [.ref 127] ((zu ia 127 22 ((ia 127 22) + (1 : Int32))), la, zRA pl dr cp cw rp) K else (if i1 = (43 : Int32) then zWP d 134 71 [some (.ref 127), some (.int i1)] [.ref 127] ((zu ia 127 22 ((ia 127 22) + (1 : Int32))), la, zRA pl dr cp cw rp) K else (if i1 = (45 : Int32) then zWP d 134 71 [some (.ref 127), some (.int i1)] [.ref 127] ((zu ia 127 22 ((ia 127 22) + (1 : Int32))), la, zRA pl dr cp cw rp) K else (if i1 = (42 : Int32) then zWP d 134 71 [some (.ref 127), some (.int i1)] [.ref 127] ((zu ia 127 22 ((ia 127 22) + (1 : Int32))), la, zRA pl dr cp cw rp) K else (if i1 = (47 : Int32) then zWP d 134 71 [some (.ref 127), some (.int i1)] [.ref 127] ((zu ia 127 22 ((ia 127 22) + (1 : Int32))), la, zRA pl dr cp cw rp) K else (if i1 = (60 : Int32) then zWP d 134 71 [some (.ref 127), some (.int i1)] [.ref 127] ((zu ia 127 22 ((ia 127 22) + (1 : Int32))), la, zRA pl dr cp cw rp) K else (if i1 = (61 : Int32) then zWP d 134 71 [some (.ref 127), some (.int i1)] [.ref 127] ((zu ia 127 22 ((ia 127 22) + (1 : Int32))), la, zRA pl dr cp cw rp) K else (if ¬ i1 = (62 : Int32) then zWP d 134 76 [some (.ref 127), some (.int i1)] [.int (5 : Int32), .ref 127] ((zu ia 127 22 ((ia 127 22) + (1 : Int32))), la, zRA pl dr cp cw rp) K else zWP d 134 71 [some (.ref 127), some (.int i1)] [.ref 127] ((zu ia 127 22 ((ia 127 22) + (1 : Int32))), la, zRA pl dr cp cw rp) K)))))))))) := by
  refine (Q_aload_n zm_134 (Or.inl (by decide)) D134_0 rfl).trans ?_
  refine (Q_dup zm_134 (Or.inl (by decide)) D134_1 rfl).trans ?_
  refine (Q_getI zm_134 (Or.inl (by decide)) D134_2 zf_10_157 (Or.inl zs_10_22) zk_127.1).trans ?_
  refine (Q_iconst (v := 1) zm_134 (Or.inl (by decide)) D134_5 (by decide)).trans ?_
  refine (Q_iadd zm_134 (Or.inl (by decide)) D134_6).trans ?_
  refine (Q_putI zm_134 (Or.inl (by decide)) D134_7 zf_10_157 zs_10_22 rfl zk_127.1).trans ?_
  refine (Q_aload_n zm_134 (Or.inl (by decide)) D134_10 rfl).trans ?_
  refine (Q_iload_n zm_134 (Or.inl (by decide)) D134_11 rfl).trans ?_
  refine (Q_bipush (v := 59) zm_134 (Or.inl (by decide)) D134_12 (by decide)).trans ?_
  refine (Q_ic_eq (tgt := 71) zm_134 (Or.inl (by decide)) D134_14 (by decide)).trans ?_
  refine zif_c (fun h0_ => ?_) (fun h0_ => ?_)
  · rfl
  · refine (Q_iload_n zm_134 (Or.inl (by decide)) D134_17 rfl).trans ?_
    refine (Q_bipush (v := 40) zm_134 (Or.inl (by decide)) D134_18 (by decide)).trans ?_
    refine (Q_ic_eq (tgt := 71) zm_134 (Or.inl (by decide)) D134_20 (by decide)).trans ?_
    refine zif_c (fun h1_ => ?_) (fun h1_ => ?_)
    · rfl
    · refine (Q_iload_n zm_134 (Or.inl (by decide)) D134_23 rfl).trans ?_
      refine (Q_bipush (v := 41) zm_134 (Or.inl (by decide)) D134_24 (by decide)).trans ?_
      refine (Q_ic_eq (tgt := 71) zm_134 (Or.inl (by decide)) D134_26 (by decide)).trans ?_
      refine zif_c (fun h2_ => ?_) (fun h2_ => ?_)
      · rfl
      · refine (Q_iload_n zm_134 (Or.inl (by decide)) D134_29 rfl).trans ?_
        refine (Q_bipush (v := 43) zm_134 (Or.inl (by decide)) D134_30 (by decide)).trans ?_
        refine (Q_ic_eq (tgt := 71) zm_134 (Or.inl (by decide)) D134_32 (by decide)).trans ?_
        refine zif_c (fun h3_ => ?_) (fun h3_ => ?_)
        · rfl
        · refine (Q_iload_n zm_134 (Or.inl (by decide)) D134_35 rfl).trans ?_
          refine (Q_bipush (v := 45) zm_134 (Or.inl (by decide)) D134_36 (by decide)).trans ?_
          refine (Q_ic_eq (tgt := 71) zm_134 (Or.inl (by decide)) D134_38 (by decide)).trans ?_
          refine zif_c (fun h4_ => ?_) (fun h4_ => ?_)
          · rfl
          · refine (Q_iload_n zm_134 (Or.inl (by decide)) D134_41 rfl).trans ?_
            refine (Q_bipush (v := 42) zm_134 (Or.inl (by decide)) D134_42 (by decide)).trans ?_
            refine (Q_ic_eq (tgt := 71) zm_134 (Or.inl (by decide)) D134_44 (by decide)).trans ?_
            refine zif_c (fun h5_ => ?_) (fun h5_ => ?_)
            · rfl
            · refine (Q_iload_n zm_134 (Or.inl (by decide)) D134_47 rfl).trans ?_
              refine (Q_bipush (v := 47) zm_134 (Or.inl (by decide)) D134_48 (by decide)).trans ?_
              refine (Q_ic_eq (tgt := 71) zm_134 (Or.inl (by decide)) D134_50 (by decide)).trans ?_
              refine zif_c (fun h6_ => ?_) (fun h6_ => ?_)
              · rfl
              · refine (Q_iload_n zm_134 (Or.inl (by decide)) D134_53 rfl).trans ?_
                refine (Q_bipush (v := 60) zm_134 (Or.inl (by decide)) D134_54 (by decide)).trans ?_
                refine (Q_ic_eq (tgt := 71) zm_134 (Or.inl (by decide)) D134_56 (by decide)).trans ?_
                refine zif_c (fun h7_ => ?_) (fun h7_ => ?_)
                · rfl
                · refine (Q_iload_n zm_134 (Or.inl (by decide)) D134_59 rfl).trans ?_
                  refine (Q_bipush (v := 61) zm_134 (Or.inl (by decide)) D134_60 (by decide)).trans ?_
                  refine (Q_ic_eq (tgt := 71) zm_134 (Or.inl (by decide)) D134_62 (by decide)).trans ?_
                  refine zif_c (fun h8_ => ?_) (fun h8_ => ?_)
                  · rfl
                  · refine (Q_iload_n zm_134 (Or.inl (by decide)) D134_65 rfl).trans ?_
                    refine (Q_bipush (v := 62) zm_134 (Or.inl (by decide)) D134_66 (by decide)).trans ?_
                    refine (Q_ic_ne (tgt := 75) zm_134 (Or.inl (by decide)) D134_68 (by decide)).trans ?_
                    refine zif_c (fun h9_ => ?_) (fun h9_ => ?_)
                    · refine (Q_iconst (v := 5) zm_134 (Or.inl (by decide)) D134_75 (by decide)).trans ?_
                      rfl
                    · rfl

theorem b134_71 {d : Nat} {i1 : Int32} {ia : Nat → Nat → Int32} {la : Nat → Nat → Int64} {pl dr : Nat} {cp : Option Nat} {cw : Option Nat} {rp : Option Nat} {K : Option Value → zHP → Prop}  : zWP d 134 71 [some (.ref 127), some (.int i1)] [.ref 127] (ia, la, zRA pl dr cp cw rp) K = zWP d 134 76 [some (.ref 127), some (.int i1)] [.int (3 : Int32), .ref 127] (ia, la, zRA pl dr cp cw rp) K := by
  refine (Q_iconst (v := 3) zm_134 (Or.inl (by decide)) D134_71 (by decide)).trans ?_
  refine (Q_goto (tgt := 76) zm_134 (Or.inl (by decide)) D134_72 (by decide)).trans ?_
  rfl

theorem b134_76 {d : Nat} {i1 : Int32} {s1 : Int32} {ia : Nat → Nat → Int32} {la : Nat → Nat → Int64} {pl dr : Nat} {cp : Option Nat} {cw : Option Nat} {rp : Option Nat} {K : Option Value → zHP → Prop}  : zWP (d + 1) 134 76 [some (.ref 127), some (.int i1)] [.int s1, .ref 127] (ia, la, zRA pl dr cp cw rp) K = (if ¬ i1 = (60 : Int32) then zWP (d + 1) 134 106 [some (.ref 127), some (.int i1)] [] ((zu (zu ia 127 24 s1) 127 25 i1), la, zRA pl dr cp cw rp) K else zWM d 130 [.ref 127] ((zu (zu ia 127 24 s1) 127 25 i1), la, zRA pl dr cp cw rp) (zK (d + 1) 134 94 [some (.ref 127), some (.int i1)] [] K)) := by
  refine (Q_putI zm_134 (Or.inl (by decide)) D134_76 zf_10_170 zs_10_24 rfl zk_127.1).trans ?_
  refine (Q_aload_n zm_134 (Or.inl (by decide)) D134_79 rfl).trans ?_
  refine (Q_iload_n zm_134 (Or.inl (by decide)) D134_80 rfl).trans ?_
  refine (Q_putI zm_134 (Or.inl (by decide)) D134_81 zf_10_180 zs_10_25 rfl zk_127.1).trans ?_
  refine (Q_iload_n zm_134 (Or.inl (by decide)) D134_84 rfl).trans ?_
  refine (Q_bipush (v := 60) zm_134 (Or.inl (by decide)) D134_85 (by decide)).trans ?_
  refine (Q_ic_ne (tgt := 106) zm_134 (Or.inl (by decide)) D134_87 (by decide)).trans ?_
  refine zif_c (fun h0_ => ?_) (fun h0_ => ?_)
  · rfl
  · refine (Q_aload_n zm_134 (Or.inl (by decide)) D134_90 rfl).trans ?_
    exact Q_callv (as := []) (b := 127) (rest := []) zm_134 (Or.inl (by decide)) D134_91 zc_10_163 rfl zk_127.1 (by decide) (by decide +kernel) (by decide) (by simp [zcat, Value.category]) zm_130 rfl

theorem b134_106 {d : Nat} {i1 : Int32} {ia : Nat → Nat → Int32} {la : Nat → Nat → Int64} {pl dr : Nat} {cp : Option Nat} {cw : Option Nat} {rp : Option Nat} {K : Option Value → zHP → Prop}  : zWP (d + 1) 134 106 [some (.ref 127), some (.int i1)] [] (ia, la, zRA pl dr cp cw rp) K = (if ¬ i1 = (60 : Int32) then zWP (d + 1) 134 128 [some (.ref 127), some (.int i1)] [] (ia, la, zRA pl dr cp cw rp) K else zWM d 130 [.ref 127] (ia, la, zRA pl dr cp cw rp) (zK (d + 1) 134 116 [some (.ref 127), some (.int i1)] [] K)) := by
  refine (Q_iload_n zm_134 (Or.inl (by decide)) D134_106 rfl).trans ?_
  refine (Q_bipush (v := 60) zm_134 (Or.inl (by decide)) D134_107 (by decide)).trans ?_
  refine (Q_ic_ne (tgt := 128) zm_134 (Or.inl (by decide)) D134_109 (by decide)).trans ?_
  refine zif_c (fun h0_ => ?_) (fun h0_ => ?_)
  · rfl
  · refine (Q_aload_n zm_134 (Or.inl (by decide)) D134_112 rfl).trans ?_
    exact Q_callv (as := []) (b := 127) (rest := []) zm_134 (Or.inl (by decide)) D134_113 zc_10_163 rfl zk_127.1 (by decide) (by decide +kernel) (by decide) (by simp [zcat, Value.category]) zm_130 rfl

theorem b134_94 {d : Nat} {i1 : Int32} {s0 : Int32} {ia : Nat → Nat → Int32} {la : Nat → Nat → Int64} {pl dr : Nat} {cp : Option Nat} {cw : Option Nat} {rp : Option Nat} {K : Option Value → zHP → Prop}  : zWP d 134 94 [some (.ref 127), some (.int i1)] [.int s0] (ia, la, zRA pl dr cp cw rp) K = (if ¬ s0 = (61 : Int32) then zWP d 134 106 [some (.ref 127), some (.int i1)] [] (ia, la, zRA pl dr cp cw rp) K else zWP d 134 106 [some (.ref 127), some (.int i1)] [] ((zu ia 127 25 (256 : Int32)), la, zRA pl dr cp cw rp) K) := by
  refine (Q_bipush (v := 61) zm_134 (Or.inl (by decide)) D134_94 (by decide)).trans ?_
  refine (Q_ic_ne (tgt := 106) zm_134 (Or.inl (by decide)) D134_96 (by decide)).trans ?_
  refine zif_c (fun h0_ => ?_) (fun h0_ => ?_)
  · rfl
  · refine (Q_aload_n zm_134 (Or.inl (by decide)) D134_99 rfl).trans ?_
    refine (Q_sipush (v := 256) zm_134 (Or.inl (by decide)) D134_100 (by decide)).trans ?_
    refine (Q_putI zm_134 (Or.inl (by decide)) D134_103 zf_10_180 zs_10_25 rfl zk_127.1).trans ?_
    rfl

theorem b134_128 {d : Nat} {i1 : Int32} {ia : Nat → Nat → Int32} {la : Nat → Nat → Int64} {pl dr : Nat} {cp : Option Nat} {cw : Option Nat} {rp : Option Nat} {K : Option Value → zHP → Prop}  : zWP (d + 1) 134 128 [some (.ref 127), some (.int i1)] [] (ia, la, zRA pl dr cp cw rp) K = (if ¬ i1 = (62 : Int32) then zWP (d + 1) 134 150 [some (.ref 127), some (.int i1)] [] (ia, la, zRA pl dr cp cw rp) K else zWM d 130 [.ref 127] (ia, la, zRA pl dr cp cw rp) (zK (d + 1) 134 138 [some (.ref 127), some (.int i1)] [] K)) := by
  refine (Q_iload_n zm_134 (Or.inl (by decide)) D134_128 rfl).trans ?_
  refine (Q_bipush (v := 62) zm_134 (Or.inl (by decide)) D134_129 (by decide)).trans ?_
  refine (Q_ic_ne (tgt := 150) zm_134 (Or.inl (by decide)) D134_131 (by decide)).trans ?_
  refine zif_c (fun h0_ => ?_) (fun h0_ => ?_)
  · rfl
  · refine (Q_aload_n zm_134 (Or.inl (by decide)) D134_134 rfl).trans ?_
    exact Q_callv (as := []) (b := 127) (rest := []) zm_134 (Or.inl (by decide)) D134_135 zc_10_163 rfl zk_127.1 (by decide) (by decide +kernel) (by decide) (by simp [zcat, Value.category]) zm_130 rfl

theorem b134_116 {d : Nat} {i1 : Int32} {s0 : Int32} {ia : Nat → Nat → Int32} {la : Nat → Nat → Int64} {pl dr : Nat} {cp : Option Nat} {cw : Option Nat} {rp : Option Nat} {K : Option Value → zHP → Prop}  : zWP d 134 116 [some (.ref 127), some (.int i1)] [.int s0] (ia, la, zRA pl dr cp cw rp) K = (if ¬ s0 = (62 : Int32) then zWP d 134 128 [some (.ref 127), some (.int i1)] [] (ia, la, zRA pl dr cp cw rp) K else zWP d 134 128 [some (.ref 127), some (.int i1)] [] ((zu ia 127 25 (257 : Int32)), la, zRA pl dr cp cw rp) K) := by
  refine (Q_bipush (v := 62) zm_134 (Or.inl (by decide)) D134_116 (by decide)).trans ?_
  refine (Q_ic_ne (tgt := 128) zm_134 (Or.inl (by decide)) D134_118 (by decide)).trans ?_
  refine zif_c (fun h0_ => ?_) (fun h0_ => ?_)
  · rfl
  · refine (Q_aload_n zm_134 (Or.inl (by decide)) D134_121 rfl).trans ?_
    refine (Q_sipush (v := 257) zm_134 (Or.inl (by decide)) D134_122 (by decide)).trans ?_
    refine (Q_putI zm_134 (Or.inl (by decide)) D134_125 zf_10_180 zs_10_25 rfl zk_127.1).trans ?_
    rfl

theorem b134_150 {d : Nat} {i1 : Int32} {ia : Nat → Nat → Int32} {la : Nat → Nat → Int64} {pl dr : Nat} {cp : Option Nat} {cw : Option Nat} {rp : Option Nat} {K : Option Value → zHP → Prop}  : zWP d 134 150 [some (.ref 127), some (.int i1)] [] (ia, la, zRA pl dr cp cw rp) K = (if (ia 127 25) < (256 : Int32) then K none (ia, la, zRA pl dr cp cw rp) else K none ((zu ia 127 22 ((ia 127 22) + (1 : Int32))), la, zRA pl dr cp cw rp)) := by
  refine (Q_aload_n zm_134 (Or.inl (by decide)) D134_150 rfl).trans ?_
  refine (Q_getI zm_134 (Or.inl (by decide)) D134_151 zf_10_180 (Or.inl zs_10_25) zk_127.1).trans ?_
  refine (Q_sipush (v := 256) zm_134 (Or.inl (by decide)) D134_154 (by decide)).trans ?_
  refine (Q_ic_lt (tgt := 170) zm_134 (Or.inl (by decide)) D134_157 (by decide)).trans ?_
  refine zif_c (fun h0_ => ?_) (fun h0_ => ?_)
  · exact Q_return zm_134 (Or.inl (by decide)) D134_170 rfl
  · refine (Q_aload_n zm_134 (Or.inl (by decide)) D134_160 rfl).trans ?_
    refine (Q_dup zm_134 (Or.inl (by decide)) D134_161 rfl).trans ?_
    refine (Q_getI zm_134 (Or.inl (by decide)) D134_162 zf_10_157 (Or.inl zs_10_22) zk_127.1).trans ?_
    refine (Q_iconst (v := 1) zm_134 (Or.inl (by decide)) D134_165 (by decide)).trans ?_
    refine (Q_iadd zm_134 (Or.inl (by decide)) D134_166).trans ?_
    refine (Q_putI zm_134 (Or.inl (by decide)) D134_167 zf_10_157 zs_10_22 rfl zk_127.1).trans ?_
    exact Q_return zm_134 (Or.inl (by decide)) D134_170 rfl

theorem b134_138 {d : Nat} {i1 : Int32} {s0 : Int32} {ia : Nat → Nat → Int32} {la : Nat → Nat → Int64} {pl dr : Nat} {cp : Option Nat} {cw : Option Nat} {rp : Option Nat} {K : Option Value → zHP → Prop}  : zWP d 134 138 [some (.ref 127), some (.int i1)] [.int s0] (ia, la, zRA pl dr cp cw rp) K = (if ¬ s0 = (61 : Int32) then zWP d 134 150 [some (.ref 127), some (.int i1)] [] (ia, la, zRA pl dr cp cw rp) K else zWP d 134 150 [some (.ref 127), some (.int i1)] [] ((zu ia 127 25 (258 : Int32)), la, zRA pl dr cp cw rp) K) := by
  refine (Q_bipush (v := 61) zm_134 (Or.inl (by decide)) D134_138 (by decide)).trans ?_
  refine (Q_ic_ne (tgt := 150) zm_134 (Or.inl (by decide)) D134_140 (by decide)).trans ?_
  refine zif_c (fun h0_ => ?_) (fun h0_ => ?_)
  · rfl
  · refine (Q_aload_n zm_134 (Or.inl (by decide)) D134_143 rfl).trans ?_
    refine (Q_sipush (v := 258) zm_134 (Or.inl (by decide)) D134_144 (by decide)).trans ?_
    refine (Q_putI zm_134 (Or.inl (by decide)) D134_147 zf_10_180 zs_10_25 rfl zk_127.1).trans ?_
    rfl

/-! HandsLetModel.word()I -/
theorem D135_0 : decode prog_12_method_9_code 0 = .ok (.iconst 0, 1) := by decide +kernel
theorem D135_1 : decode prog_12_method_9_code 1 = .ok (.istore_n 1, 1) := by decide +kernel
theorem D135_2 : decode prog_12_method_9_code 2 = .ok (.iconst 0, 1) := by decide +kernel
theorem D135_3 : decode prog_12_method_9_code 3 = .ok (.istore_n 2, 1) := by decide +kernel
theorem D135_4 : decode prog_12_method_9_code 4 = .ok (.iload_n 2, 1) := by decide +kernel
theorem D135_5 : decode prog_12_method_9_code 5 = .ok (.ldc 194, 2) := by decide +kernel
theorem D135_7 : decode prog_12_method_9_code 7 = .ok (.invokevirtual 196, 3) := by decide +kernel
theorem D135_10 : decode prog_12_method_9_code 10 = .ok (.if_icmp .ge 113, 3) := by decide +kernel
theorem D135_13 : decode prog_12_method_9_code 13 = .ok (.iconst 0, 1) := by decide +kernel
theorem D135_14 : decode prog_12_method_9_code 14 = .ok (.istore_n 3, 1) := by decide +kernel
theorem D135_15 : decode prog_12_method_9_code 15 = .ok (.ldc 194, 2) := by decide +kernel
theorem D135_17 : decode prog_12_method_9_code 17 = .ok (.iload_n 2, 1) := by decide +kernel
theorem D135_18 : decode prog_12_method_9_code 18 = .ok (.iload_n 3, 1) := by decide +kernel
theorem D135_19 : decode prog_12_method_9_code 19 = .ok (.iadd, 1) := by decide +kernel
theorem D135_20 : decode prog_12_method_9_code 20 = .ok (.invokevirtual 201, 3) := by decide +kernel
theorem D135_23 : decode prog_12_method_9_code 23 = .ok (.bipush 32, 2) := by decide +kernel
theorem D135_25 : decode prog_12_method_9_code 25 = .ok (.if_icmp .eq 44, 3) := by decide +kernel
theorem D135_28 : decode prog_12_method_9_code 28 = .ok (.aload_n 0, 1) := by decide +kernel
theorem D135_29 : decode prog_12_method_9_code 29 = .ok (.getfield 167, 3) := by decide +kernel
theorem D135_32 : decode prog_12_method_9_code 32 = .ok (.iload_n 3, 1) := by decide +kernel
theorem D135_33 : decode prog_12_method_9_code 33 = .ok (.iadd, 1) := by decide +kernel
theorem D135_34 : decode prog_12_method_9_code 34 = .ok (.aload_n 0, 1) := by decide +kernel
theorem D135_35 : decode prog_12_method_9_code 35 = .ok (.getfield 157, 3) := by decide +kernel
theorem D135_38 : decode prog_12_method_9_code 38 = .ok (.if_icmp .ge 31, 3) := by decide +kernel
theorem D135_41 : decode prog_12_method_9_code 41 = .ok (.aload_n 0, 1) := by decide +kernel
theorem D135_42 : decode prog_12_method_9_code 42 = .ok (.getfield 7, 3) := by decide +kernel
theorem D135_45 : decode prog_12_method_9_code 45 = .ok (.aload_n 0, 1) := by decide +kernel
theorem D135_46 : decode prog_12_method_9_code 46 = .ok (.getfield 167, 3) := by decide +kernel
theorem D135_49 : decode prog_12_method_9_code 49 = .ok (.iload_n 3, 1) := by decide +kernel
theorem D135_50 : decode prog_12_method_9_code 50 = .ok (.iadd, 1) := by decide +kernel
theorem D135_51 : decode prog_12_method_9_code 51 = .ok (.iaload, 1) := by decide +kernel
theorem D135_52 : decode prog_12_method_9_code 52 = .ok (.ldc 194, 2) := by decide +kernel
theorem D135_54 : decode prog_12_method_9_code 54 = .ok (.iload_n 2, 1) := by decide +kernel
theorem D135_55 : decode prog_12_method_9_code 55 = .ok (.iload_n 3, 1) := by decide +kernel
theorem D135_56 : decode prog_12_method_9_code 56 = .ok (.iadd, 1) := by decide +kernel
theorem D135_57 : decode prog_12_method_9_code 57 = .ok (.invokevirtual 201, 3) := by decide +kernel
theorem D135_60 : decode prog_12_method_9_code 60 = .ok (.if_icmp .ne 9, 3) := by decide +kernel
theorem D135_63 : decode prog_12_method_9_code 63 = .ok (.iinc 3 1, 3) := by decide +kernel
theorem D135_66 : decode prog_12_method_9_code 66 = .ok (.goto (-51), 3) := by decide +kernel
theorem D135_69 : decode prog_12_method_9_code 69 = .ok (.ldc 194, 2) := by decide +kernel
theorem D135_71 : decode prog_12_method_9_code 71 = .ok (.iload_n 2, 1) := by decide +kernel
theorem D135_72 : decode prog_12_method_9_code 72 = .ok (.iload_n 3, 1) := by decide +kernel
theorem D135_73 : decode prog_12_method_9_code 73 = .ok (.iadd, 1) := by decide +kernel
theorem D135_74 : decode prog_12_method_9_code 74 = .ok (.invokevirtual 201, 3) := by decide +kernel
theorem D135_77 : decode prog_12_method_9_code 77 = .ok (.bipush 32, 2) := by decide +kernel
theorem D135_79 : decode prog_12_method_9_code 79 = .ok (.if_icmp .ne 18, 3) := by decide +kernel
theorem D135_82 : decode prog_12_method_9_code 82 = .ok (.aload_n 0, 1) := by decide +kernel
theorem D135_83 : decode prog_12_method_9_code 83 = .ok (.getfield 167, 3) := by decide +kernel
theorem D135_86 : decode prog_12_method_9_code 86 = .ok (.iload_n 3, 1) := by decide +kernel
theorem D135_87 : decode prog_12_method_9_code 87 = .ok (.iadd, 1) := by decide +kernel
theorem D135_88 : decode prog_12_method_9_code 88 = .ok (.aload_n 0, 1) := by decide +kernel
theorem D135_89 : decode prog_12_method_9_code 89 = .ok (.getfield 157, 3) := by decide +kernel
theorem D135_92 : decode prog_12_method_9_code 92 = .ok (.if_icmp .ne 5, 3) := by decide +kernel
theorem D135_95 : decode prog_12_method_9_code 95 = .ok (.iload_n 1, 1) := by decide +kernel
theorem D135_96 : decode prog_12_method_9_code 96 = .ok (.ireturn, 1) := by decide +kernel
theorem D135_97 : decode prog_12_method_9_code 97 = .ok (.ldc 194, 2) := by decide +kernel
theorem D135_99 : decode prog_12_method_9_code 99 = .ok (.iload_n 2, 1) := by decide +kernel
theorem D135_100 : decode prog_12_method_9_code 100 = .ok (.invokevirtual 201, 3) := by decide +kernel
theorem D135_103 : decode prog_12_method_9_code 103 = .ok (.bipush 32, 2) := by decide +kernel
theorem D135_105 : decode prog_12_method_9_code 105 = .ok (.if_icmp .eq 9, 3) := by decide +kernel
theorem D135_108 : decode prog_12_method_9_code 108 = .ok (.iinc 2 1, 3) := by decide +kernel
theorem D135_111 : decode prog_12_method_9_code 111 = .ok (.goto (-14), 3) := by decide +kernel
theorem D135_114 : decode prog_12_method_9_code 114 = .ok (.iinc 2 1, 3) := by decide +kernel
theorem D135_117 : decode prog_12_method_9_code 117 = .ok (.iinc 1 1, 3) := by decide +kernel
theorem D135_120 : decode prog_12_method_9_code 120 = .ok (.goto (-116), 3) := by decide +kernel
theorem D135_123 : decode prog_12_method_9_code 123 = .ok (.iconst (-1), 1) := by decide +kernel
theorem D135_124 : decode prog_12_method_9_code 124 = .ok (.ireturn, 1) := by decide +kernel

theorem b135_0 {d : Nat}  {ia : Nat → Nat → Int32} {la : Nat → Nat → Int64} {pl dr : Nat} {cp : Option Nat} {cw : Option Nat} {rp : Option Nat} {K : Option Value → zHP → Prop}  : zWP d 135 0 [some (.ref 127), none, none, none] [] (ia, la, zRA pl dr cp cw rp) K = zWP d 135 4 [some (.ref 127), some (.int (0 : Int32)), some (.int (0 : Int32)), none] [] (ia, la, zRA pl dr cp cw rp) K := by
  refine (Q_iconst (v := 0) zm_135 (Or.inl (by decide)) D135_0 (by decide)).trans ?_
  refine (Q_istore_n (ls' := [some (.ref 127), some (.int (0 : Int32)), none, none]) zm_135 (Or.inl (by decide)) D135_1 rfl (Nat.le_of_ble_eq_true rfl) rfl).trans ?_
  refine (Q_iconst (v := 0) zm_135 (Or.inl (by decide)) D135_2 (by decide)).trans ?_
  refine (Q_istore_n (ls' := [some (.ref 127), some (.int (0 : Int32)), some (.int (0 : Int32)), none]) zm_135 (Or.inl (by decide)) D135_3 rfl (Nat.le_of_ble_eq_true rfl) rfl).trans ?_
  rfl

theorem b135_4 {d : Nat} {i1 : Int32} {i2 : Int32} {a3 : Option Value} {ia : Nat → Nat → Int32} {la : Nat → Nat → Int64} {pl dr : Nat} {cp : Option Nat} {cw : Option Nat} {rp : Option Nat} {K : Option Value → zHP → Prop}  : zWP (d + 5) 135 4 [some (.ref 127), some (.int i1), some (.int i2), a3] [] (ia, la, zRA pl dr cp cw rp) K = (if (nI zwds.length) ≤ i2 then K (some (.int (-1 : Int32))) (ia, la, zRA pl dr cp cw rp) else zWP (d + 5) 135 15 [some (.ref 127), some (.int i1), some (.int i2), some (.int (0 : Int32))] [] (ia, la, zRA pl dr cp cw rp) K) := by
  refine (Q_iload_n zm_135 (Or.inl (by decide)) D135_4 rfl).trans ?_
  refine (Q_ldcS zm_135 (Or.inl (by decide)) D135_5 (by decide +kernel) rfl).trans ?_
  refine (Q_biv (as := []) (rest := [.int i2]) zm_135 (Or.inl (by decide)) D135_7 zc_10_196 rfl (Or.inl rfl) (by simp [zcat, Value.category]) rfl).trans ?_
  refine (Q_ic_ge (tgt := 123) zm_135 (Or.inl (by decide)) D135_10 (by decide)).trans ?_
  refine zif_c (fun h0_ => ?_) (fun h0_ => ?_)
  · refine (Q_iconst (v := -1) zm_135 (Or.inl (by decide)) D135_123 (by decide)).trans ?_
    exact Q_ireturn zm_135 (Or.inl (by decide)) D135_124 rfl
  · refine (Q_iconst (v := 0) zm_135 (Or.inl (by decide)) D135_13 (by decide)).trans ?_
    refine (Q_istore_n (ls' := [some (.ref 127), some (.int i1), some (.int i2), some (.int (0 : Int32))]) zm_135 (Or.inl (by decide)) D135_14 rfl (Nat.le_of_ble_eq_true rfl) rfl).trans ?_
    rfl

theorem b135_15 {d : Nat} {i1 : Int32} {i2 : Int32} {i3 : Int32} {ia : Nat → Nat → Int32} {la : Nat → Nat → Int64} {pl dr : Nat} {cp : Option Nat} {cw : Option Nat} {rp : Option Nat} {K : Option Value → zHP → Prop}  : zWP (d + 5) 135 15 [some (.ref 127), some (.int i1), some (.int i2), some (.int i3)] [] (ia, la, zRA pl dr cp cw rp) K = (vp_in (i2 + i3) zwds.length ∧ (if (zwds.getD ((i2 + i3)).toNatClampNeg 0) = (32 : Int32) then zWP (d + 5) 135 69 [some (.ref 127), some (.int i1), some (.int i2), some (.int i3)] [] (ia, la, zRA pl dr cp cw rp) K else (if (ia 127 22) ≤ ((ia 127 23) + i3) then zWP (d + 5) 135 69 [some (.ref 127), some (.int i1), some (.int i2), some (.int i3)] [] (ia, la, zRA pl dr cp cw rp) K else (vp_in ((ia 127 23) + i3) 700 ∧ (vp_in (i2 + i3) zwds.length ∧ (if ¬ (ia 128 (((ia 127 23) + i3)).toNatClampNeg) = (zwds.getD ((i2 + i3)).toNatClampNeg 0) then zWP (d + 5) 135 69 [some (.ref 127), some (.int i1), some (.int i2), some (.int i3)] [] (ia, la, zRA pl dr cp cw rp) K else zWP (d + 5) 135 15 [some (.ref 127), some (.int i1), some (.int i2), some (.int (i3 + (1 : Int32)))] [] (ia, la, zRA pl dr cp cw rp) K)))))) := by
  refine (Q_ldcS zm_135 (Or.inl (by decide)) D135_15 (by decide +kernel) rfl).trans ?_
  refine (Q_iload_n zm_135 (Or.inl (by decide)) D135_17 rfl).trans ?_
  refine (Q_iload_n zm_135 (Or.inl (by decide)) D135_18 rfl).trans ?_
  refine (Q_iadd zm_135 (Or.inl (by decide)) D135_19).trans ?_
  refine (Q_charAt (rest := []) zm_135 (Or.inl (by decide)) D135_20 zc_10_201 (by simp [zcat, Value.category])).trans ?_
  refine zand_c (fun h0_ => ?_)
  refine (Q_bipush (v := 32) zm_135 (Or.inl (by decide)) D135_23 (by decide)).trans ?_
  refine (Q_ic_eq (tgt := 69) zm_135 (Or.inl (by decide)) D135_25 (by decide)).trans ?_
  refine zif_c (fun h1_ => ?_) (fun h1_ => ?_)
  · rfl
  · refine (Q_aload_n zm_135 (Or.inl (by decide)) D135_28 rfl).trans ?_
    refine (Q_getI zm_135 (Or.inl (by decide)) D135_29 zf_10_167 (Or.inl zs_10_23) zk_127.1).trans ?_
    refine (Q_iload_n zm_135 (Or.inl (by decide)) D135_32 rfl).trans ?_
    refine (Q_iadd zm_135 (Or.inl (by decide)) D135_33).trans ?_
    refine (Q_aload_n zm_135 (Or.inl (by decide)) D135_34 rfl).trans ?_
    refine (Q_getI zm_135 (Or.inl (by decide)) D135_35 zf_10_157 (Or.inl zs_10_22) zk_127.1).trans ?_
    refine (Q_ic_ge (tgt := 69) zm_135 (Or.inl (by decide)) D135_38 (by decide)).trans ?_
    refine zif_c (fun h2_ => ?_) (fun h2_ => ?_)
    · rfl
    · refine (Q_aload_n zm_135 (Or.inl (by decide)) D135_41 rfl).trans ?_
      refine (Q_getR (q := 128) zm_135 (Or.inl (by decide)) D135_42 zf_10_7 zs_10_1 zk_127.1 rfl).trans ?_
      refine (Q_aload_n zm_135 (Or.inl (by decide)) D135_45 rfl).trans ?_
      refine (Q_getI zm_135 (Or.inl (by decide)) D135_46 zf_10_167 (Or.inl zs_10_23) zk_127.1).trans ?_
      refine (Q_iload_n zm_135 (Or.inl (by decide)) D135_49 rfl).trans ?_
      refine (Q_iadd zm_135 (Or.inl (by decide)) D135_50).trans ?_
      refine (Q_iaload zm_135 (Or.inl (by decide)) D135_51 zk_128.1 zk_128.2).trans ?_
      refine zand_c (fun h3_ => ?_)
      refine (Q_ldcS zm_135 (Or.inl (by decide)) D135_52 (by decide +kernel) rfl).trans ?_
      refine (Q_iload_n zm_135 (Or.inl (by decide)) D135_54 rfl).trans ?_
      refine (Q_iload_n zm_135 (Or.inl (by decide)) D135_55 rfl).trans ?_
      refine (Q_iadd zm_135 (Or.inl (by decide)) D135_56).trans ?_
      refine (Q_charAt (rest := [.int (ia 128 (((ia 127 23) + i3)).toNatClampNeg)]) zm_135 (Or.inl (by decide)) D135_57 zc_10_201 (by simp [zcat, Value.category])).trans ?_
      refine zand_c (fun h4_ => ?_)
      refine (Q_ic_ne (tgt := 69) zm_135 (Or.inl (by decide)) D135_60 (by decide)).trans ?_
      refine zif_c (fun h5_ => ?_) (fun h5_ => ?_)
      · rfl
      · refine (Q_iinc (v := 1) (ls' := [some (.ref 127), some (.int i1), some (.int i2), some (.int (i3 + (1 : Int32)))]) zm_135 (Or.inl (by decide)) D135_63 rfl rfl (by decide) rfl).trans ?_
        refine (Q_goto (tgt := 15) zm_135 (Or.inl (by decide)) D135_66 (by decide)).trans ?_
        rfl

theorem b135_69 {d : Nat} {i1 : Int32} {i2 : Int32} {i3 : Int32} {ia : Nat → Nat → Int32} {la : Nat → Nat → Int64} {pl dr : Nat} {cp : Option Nat} {cw : Option Nat} {rp : Option Nat} {K : Option Value → zHP → Prop}  : zWP (d + 5) 135 69 [some (.ref 127), some (.int i1), some (.int i2), some (.int i3)] [] (ia, la, zRA pl dr cp cw rp) K = (vp_in (i2 + i3) zwds.length ∧ (if ¬ (zwds.getD ((i2 + i3)).toNatClampNeg 0) = (32 : Int32) then zWP (d + 5) 135 97 [some (.ref 127), some (.int i1), some (.int i2), some (.int i3)] [] (ia, la, zRA pl dr cp cw rp) K else (if ¬ ((ia 127 23) + i3) = (ia 127 22) then zWP (d + 5) 135 97 [some (.ref 127), some (.int i1), some (.int i2), some (.int i3)] [] (ia, la, zRA pl dr cp cw rp) K else K (some (.int i1)) (ia, la, zRA pl dr cp cw rp)))) := by
  refine (Q_ldcS zm_135 (Or.inl (by decide)) D135_69 (by decide +kernel) rfl).trans ?_
  refine (Q_iload_n zm_135 (Or.inl (by decide)) D135_71 rfl).trans ?_
  refine (Q_iload_n zm_135 (Or.inl (by decide)) D135_72 rfl).trans ?_
  refine (Q_iadd zm_135 (Or.inl (by decide)) D135_73).trans ?_
  refine (Q_charAt (rest := []) zm_135 (Or.inl (by decide)) D135_74 zc_10_201 (by simp [zcat, Value.category])).trans ?_
  refine zand_c (fun h0_ => ?_)
  refine (Q_bipush (v := 32) zm_135 (Or.inl (by decide)) D135_77 (by decide)).trans ?_
  refine (Q_ic_ne (tgt := 97) zm_135 (Or.inl (by decide)) D135_79 (by decide)).trans ?_
  refine zif_c (fun h1_ => ?_) (fun h1_ => ?_)
  · rfl
  · refine (Q_aload_n zm_135 (Or.inl (by decide)) D135_82 rfl).trans ?_
    refine (Q_getI zm_135 (Or.inl (by decide)) D135_83 zf_10_167 (Or.inl zs_10_23) zk_127.1).trans ?_
    refine (Q_iload_n zm_135 (Or.inl (by decide)) D135_86 rfl).trans ?_
    refine (Q_iadd zm_135 (Or.inl (by decide)) D135_87).trans ?_
    refine (Q_aload_n zm_135 (Or.inl (by decide)) D135_88 rfl).trans ?_
    refine (Q_getI zm_135 (Or.inl (by decide)) D135_89 zf_10_157 (Or.inl zs_10_22) zk_127.1).trans ?_
    refine (Q_ic_ne (tgt := 97) zm_135 (Or.inl (by decide)) D135_92 (by decide)).trans ?_
    refine zif_c (fun h2_ => ?_) (fun h2_ => ?_)
    · rfl
    · refine (Q_iload_n zm_135 (Or.inl (by decide)) D135_95 rfl).trans ?_
      exact Q_ireturn zm_135 (Or.inl (by decide)) D135_96 rfl

theorem b135_97 {d : Nat} {i1 : Int32} {i2 : Int32} {i3 : Int32} {ia : Nat → Nat → Int32} {la : Nat → Nat → Int64} {pl dr : Nat} {cp : Option Nat} {cw : Option Nat} {rp : Option Nat} {K : Option Value → zHP → Prop}  : zWP (d + 5) 135 97 [some (.ref 127), some (.int i1), some (.int i2), some (.int i3)] [] (ia, la, zRA pl dr cp cw rp) K = (vp_in i2 zwds.length ∧ (if (zwds.getD (i2).toNatClampNeg 0) = (32 : Int32) then zWP (d + 5) 135 4 [some (.ref 127), some (.int (i1 + (1 : Int32))), some (.int (i2 + (1 : Int32))), some (.int i3)] [] (ia, la, zRA pl dr cp cw rp) K else zWP (d + 5) 135 97 [some (.ref 127), some (.int i1), some (.int (i2 + (1 : Int32))), some (.int i3)] [] (ia, la, zRA pl dr cp cw rp) K)) := by
  refine (Q_ldcS zm_135 (Or.inl (by decide)) D135_97 (by decide +kernel) rfl).trans ?_
  refine (Q_iload_n zm_135 (Or.inl (by decide)) D135_99 rfl).trans ?_
  refine (Q_charAt (rest := []) zm_135 (Or.inl (by decide)) D135_100 zc_10_201 (by simp [zcat, Value.category])).trans ?_
  refine zand_c (fun h0_ => ?_)
  refine (Q_bipush (v := 32) zm_135 (Or.inl (by decide)) D135_103 (by decide)).trans ?_
  refine (Q_ic_eq (tgt := 114) zm_135 (Or.inl (by decide)) D135_105 (by decide)).trans ?_
  refine zif_c (fun h1_ => ?_) (fun h1_ => ?_)
  · refine (Q_iinc (v := 1) (ls' := [some (.ref 127), some (.int i1), some (.int (i2 + (1 : Int32))), some (.int i3)]) zm_135 (Or.inl (by decide)) D135_114 rfl rfl (by decide) rfl).trans ?_
    refine (Q_iinc (v := 1) (ls' := [some (.ref 127), some (.int (i1 + (1 : Int32))), some (.int (i2 + (1 : Int32))), some (.int i3)]) zm_135 (Or.inl (by decide)) D135_117 rfl rfl (by decide) rfl).trans ?_
    refine (Q_goto (tgt := 4) zm_135 (Or.inl (by decide)) D135_120 (by decide)).trans ?_
    rfl
  · refine (Q_iinc (v := 1) (ls' := [some (.ref 127), some (.int i1), some (.int (i2 + (1 : Int32))), some (.int i3)]) zm_135 (Or.inl (by decide)) D135_108 rfl rfl (by decide) rfl).trans ?_
    refine (Q_goto (tgt := 97) zm_135 (Or.inl (by decide)) D135_111 (by decide)).trans ?_
    rfl

/-! HandsLetModel.name()V -/
theorem D136_0 : decode prog_12_method_10_code 0 = .ok (.aload_n 0, 1) := by decide +kernel
theorem D136_1 : decode prog_12_method_10_code 1 = .ok (.iconst 0, 1) := by decide +kernel
theorem D136_2 : decode prog_12_method_10_code 2 = .ok (.putfield 180, 3) := by decide +kernel
theorem D136_5 : decode prog_12_method_10_code 5 = .ok (.iconst 0, 1) := by decide +kernel
theorem D136_6 : decode prog_12_method_10_code 6 = .ok (.istore_n 1, 1) := by decide +kernel
theorem D136_7 : decode prog_12_method_10_code 7 = .ok (.iload_n 1, 1) := by decide +kernel
theorem D136_8 : decode prog_12_method_10_code 8 = .ok (.bipush 6, 2) := by decide +kernel
theorem D136_10 : decode prog_12_method_10_code 10 = .ok (.if_icmp .ge 53, 3) := by decide +kernel
theorem D136_13 : decode prog_12_method_10_code 13 = .ok (.aload_n 0, 1) := by decide +kernel
theorem D136_14 : decode prog_12_method_10_code 14 = .ok (.aload_n 0, 1) := by decide +kernel
theorem D136_15 : decode prog_12_method_10_code 15 = .ok (.getfield 180, 3) := by decide +kernel
theorem D136_18 : decode prog_12_method_10_code 18 = .ok (.iconst 5, 1) := by decide +kernel
theorem D136_19 : decode prog_12_method_10_code 19 = .ok (.ishl, 1) := by decide +kernel
theorem D136_20 : decode prog_12_method_10_code 20 = .ok (.aload_n 0, 1) := by decide +kernel
theorem D136_21 : decode prog_12_method_10_code 21 = .ok (.getfield 167, 3) := by decide +kernel
theorem D136_24 : decode prog_12_method_10_code 24 = .ok (.iload_n 1, 1) := by decide +kernel
theorem D136_25 : decode prog_12_method_10_code 25 = .ok (.iadd, 1) := by decide +kernel
theorem D136_26 : decode prog_12_method_10_code 26 = .ok (.aload_n 0, 1) := by decide +kernel
theorem D136_27 : decode prog_12_method_10_code 27 = .ok (.getfield 157, 3) := by decide +kernel
theorem D136_30 : decode prog_12_method_10_code 30 = .ok (.if_icmp .ge 22, 3) := by decide +kernel
theorem D136_33 : decode prog_12_method_10_code 33 = .ok (.aload_n 0, 1) := by decide +kernel
theorem D136_34 : decode prog_12_method_10_code 34 = .ok (.getfield 7, 3) := by decide +kernel
theorem D136_37 : decode prog_12_method_10_code 37 = .ok (.aload_n 0, 1) := by decide +kernel
theorem D136_38 : decode prog_12_method_10_code 38 = .ok (.getfield 167, 3) := by decide +kernel
theorem D136_41 : decode prog_12_method_10_code 41 = .ok (.iload_n 1, 1) := by decide +kernel
theorem D136_42 : decode prog_12_method_10_code 42 = .ok (.iadd, 1) := by decide +kernel
theorem D136_43 : decode prog_12_method_10_code 43 = .ok (.iaload, 1) := by decide +kernel
theorem D136_44 : decode prog_12_method_10_code 44 = .ok (.bipush 97, 2) := by decide +kernel
theorem D136_46 : decode prog_12_method_10_code 46 = .ok (.isub, 1) := by decide +kernel
theorem D136_47 : decode prog_12_method_10_code 47 = .ok (.iconst 1, 1) := by decide +kernel
theorem D136_48 : decode prog_12_method_10_code 48 = .ok (.iadd, 1) := by decide +kernel
theorem D136_49 : decode prog_12_method_10_code 49 = .ok (.goto 4, 3) := by decide +kernel
theorem D136_52 : decode prog_12_method_10_code 52 = .ok (.iconst 0, 1) := by decide +kernel
theorem D136_53 : decode prog_12_method_10_code 53 = .ok (.ior, 1) := by decide +kernel
theorem D136_54 : decode prog_12_method_10_code 54 = .ok (.putfield 180, 3) := by decide +kernel
theorem D136_57 : decode prog_12_method_10_code 57 = .ok (.iinc 1 1, 3) := by decide +kernel
theorem D136_60 : decode prog_12_method_10_code 60 = .ok (.goto (-53), 3) := by decide +kernel
theorem D136_63 : decode prog_12_method_10_code 63 = .ok (.return_, 1) := by decide +kernel

theorem b136_0 {d : Nat}  {ia : Nat → Nat → Int32} {la : Nat → Nat → Int64} {pl dr : Nat} {cp : Option Nat} {cw : Option Nat} {rp : Option Nat} {K : Option Value → zHP → Prop}  : zWP d 136 0 [some (.ref 127), none] [] (ia, la, zRA pl dr cp cw rp) K = zWP d 136 7 [some (.ref 127), some (.int (0 : Int32))] [] ((zu ia 127 25 (0 : Int32)), la, zRA pl dr cp cw rp) K := by
  refine (Q_aload_n zm_136 (Or.inl (by decide)) D136_0 rfl).trans ?_
  refine (Q_iconst (v := 0) zm_136 (Or.inl (by decide)) D136_1 (by decide)).trans ?_
  refine (Q_putI zm_136 (Or.inl (by decide)) D136_2 zf_10_180 zs_10_25 rfl zk_127.1).trans ?_
  refine (Q_iconst (v := 0) zm_136 (Or.inl (by decide)) D136_5 (by decide)).trans ?_
  refine (Q_istore_n (ls' := [some (.ref 127), some (.int (0 : Int32))]) zm_136 (Or.inl (by decide)) D136_6 rfl (Nat.le_of_ble_eq_true rfl) rfl).trans ?_
  rfl

theorem b136_7 {d : Nat} {i1 : Int32} {ia : Nat → Nat → Int32} {la : Nat → Nat → Int64} {pl dr : Nat} {cp : Option Nat} {cw : Option Nat} {rp : Option Nat} {K : Option Value → zHP → Prop}  : zWP d 136 7 [some (.ref 127), some (.int i1)] [] (ia, la, zRA pl dr cp cw rp) K = (if (6 : Int32) ≤ i1 then K none (ia, la, zRA pl dr cp cw rp) else (if (ia 127 22) ≤ ((ia 127 23) + i1) then zWP d 136 7 [some (.ref 127), some (.int (i1 + (1 : Int32)))] [] ((zu ia 127 25 (((ia 127 25) <<< ((5 : Int32) &&& 31)) ||| (0 : Int32))), la, zRA pl dr cp cw rp) K else (vp_in ((ia 127 23) + i1) 700 ∧ zWP d 136 7 [some (.ref 127), some (.int (i1 + (1 : Int32)))] [] ((zu ia 127 25 (((ia 127 25) <<< ((5 : Int32) &&& 31)) ||| (((ia 128 (((ia 127 23) + i1)).toNatClampNeg) - (97 : Int32)) + (1 : Int32)))), la, zRA pl dr cp cw rp) K))) := by
  refine (Q_iload_n zm_136 (Or.inl (by decide)) D136_7 rfl).trans ?_
  refine (Q_bipush (v := 6) zm_136 (Or.inl (by decide)) D136_8 (by decide)).trans ?_
  refine (Q_ic_ge (tgt := 63) zm_136 (Or.inl (by decide)) D136_10 (by decide)).trans ?_
  refine zif_c (fun h0_ => ?_) (fun h0_ => ?_)
  · exact Q_return zm_136 (Or.inl (by decide)) D136_63 rfl
  · refine (Q_aload_n zm_136 (Or.inl (by decide)) D136_13 rfl).trans ?_
    refine (Q_aload_n zm_136 (Or.inl (by decide)) D136_14 rfl).trans ?_
    refine (Q_getI zm_136 (Or.inl (by decide)) D136_15 zf_10_180 (Or.inl zs_10_25) zk_127.1).trans ?_
    refine (Q_iconst (v := 5) zm_136 (Or.inl (by decide)) D136_18 (by decide)).trans ?_
    refine (Q_ishl zm_136 (Or.inl (by decide)) D136_19).trans ?_
    refine (Q_aload_n zm_136 (Or.inl (by decide)) D136_20 rfl).trans ?_
    refine (Q_getI zm_136 (Or.inl (by decide)) D136_21 zf_10_167 (Or.inl zs_10_23) zk_127.1).trans ?_
    refine (Q_iload_n zm_136 (Or.inl (by decide)) D136_24 rfl).trans ?_
    refine (Q_iadd zm_136 (Or.inl (by decide)) D136_25).trans ?_
    refine (Q_aload_n zm_136 (Or.inl (by decide)) D136_26 rfl).trans ?_
    refine (Q_getI zm_136 (Or.inl (by decide)) D136_27 zf_10_157 (Or.inl zs_10_22) zk_127.1).trans ?_
    refine (Q_ic_ge (tgt := 52) zm_136 (Or.inl (by decide)) D136_30 (by decide)).trans ?_
    refine zif_c (fun h1_ => ?_) (fun h1_ => ?_)
    · refine (Q_iconst (v := 0) zm_136 (Or.inl (by decide)) D136_52 (by decide)).trans ?_
      refine (Q_ior zm_136 (Or.inl (by decide)) D136_53).trans ?_
      refine (Q_putI zm_136 (Or.inl (by decide)) D136_54 zf_10_180 zs_10_25 rfl zk_127.1).trans ?_
      refine (Q_iinc (v := 1) (ls' := [some (.ref 127), some (.int (i1 + (1 : Int32)))]) zm_136 (Or.inl (by decide)) D136_57 rfl rfl (by decide) rfl).trans ?_
      refine (Q_goto (tgt := 7) zm_136 (Or.inl (by decide)) D136_60 (by decide)).trans ?_
      rfl
    · refine (Q_aload_n zm_136 (Or.inl (by decide)) D136_33 rfl).trans ?_
      refine (Q_getR (q := 128) zm_136 (Or.inl (by decide)) D136_34 zf_10_7 zs_10_1 zk_127.1 rfl).trans ?_
      refine (Q_aload_n zm_136 (Or.inl (by decide)) D136_37 rfl).trans ?_
      refine (Q_getI zm_136 (Or.inl (by decide)) D136_38 zf_10_167 (Or.inl zs_10_23) zk_127.1).trans ?_
      refine (Q_iload_n zm_136 (Or.inl (by decide)) D136_41 rfl).trans ?_
      refine (Q_iadd zm_136 (Or.inl (by decide)) D136_42).trans ?_
      refine (Q_iaload zm_136 (Or.inl (by decide)) D136_43 zk_128.1 zk_128.2).trans ?_
      refine zand_c (fun h2_ => ?_)
      refine (Q_bipush (v := 97) zm_136 (Or.inl (by decide)) D136_44 (by decide)).trans ?_
      refine (Q_isub zm_136 (Or.inl (by decide)) D136_46).trans ?_
      refine (Q_iconst (v := 1) zm_136 (Or.inl (by decide)) D136_47 (by decide)).trans ?_
      refine (Q_iadd zm_136 (Or.inl (by decide)) D136_48).trans ?_
      refine (Q_goto (tgt := 53) zm_136 (Or.inl (by decide)) D136_49 (by decide)).trans ?_
      refine (Q_ior zm_136 (Or.inl (by decide)) D136_53).trans ?_
      refine (Q_putI zm_136 (Or.inl (by decide)) D136_54 zf_10_180 zs_10_25 rfl zk_127.1).trans ?_
      refine (Q_iinc (v := 1) (ls' := [some (.ref 127), some (.int (i1 + (1 : Int32)))]) zm_136 (Or.inl (by decide)) D136_57 rfl rfl (by decide) rfl).trans ?_
      refine (Q_goto (tgt := 7) zm_136 (Or.inl (by decide)) D136_60 (by decide)).trans ?_
      rfl

/-! HandsLetModel.wrong(I)V -/
theorem D137_0 : decode prog_12_method_11_code 0 = .ok (.aload_n 0, 1) := by decide +kernel
theorem D137_1 : decode prog_12_method_11_code 1 = .ok (.getfield 205, 3) := by decide +kernel
theorem D137_4 : decode prog_12_method_11_code 4 = .ok (.ifCond .eq 4, 3) := by decide +kernel
theorem D137_7 : decode prog_12_method_11_code 7 = .ok (.return_, 1) := by decide +kernel
theorem D137_8 : decode prog_12_method_11_code 8 = .ok (.aload_n 0, 1) := by decide +kernel
theorem D137_9 : decode prog_12_method_11_code 9 = .ok (.iload_n 1, 1) := by decide +kernel
theorem D137_10 : decode prog_12_method_11_code 10 = .ok (.putfield 205, 3) := by decide +kernel
theorem D137_13 : decode prog_12_method_11_code 13 = .ok (.aload_n 0, 1) := by decide +kernel
theorem D137_14 : decode prog_12_method_11_code 14 = .ok (.aload_n 0, 1) := by decide +kernel
theorem D137_15 : decode prog_12_method_11_code 15 = .ok (.getfield 167, 3) := by decide +kernel
theorem D137_18 : decode prog_12_method_11_code 18 = .ok (.putfield 208, 3) := by decide +kernel
theorem D137_21 : decode prog_12_method_11_code 21 = .ok (.return_, 1) := by decide +kernel

theorem b137_0 {d : Nat} {i1 : Int32} {ia : Nat → Nat → Int32} {la : Nat → Nat → Int64} {pl dr : Nat} {cp : Option Nat} {cw : Option Nat} {rp : Option Nat} {K : Option Value → zHP → Prop}  : zWP d 137 0 [some (.ref 127), some (.int i1)] [] (ia, la, zRA pl dr cp cw rp) K = (if (ia 127 26) = 0 then K none ((zu (zu ia 127 26 i1) 127 27 ((zu ia 127 26 i1) 127 23)), la, zRA pl dr cp cw rp) else K none (ia, la, zRA pl dr cp cw rp)) := by
  refine (Q_aload_n zm_137 (Or.inl (by decide)) D137_0 rfl).trans ?_
  refine (Q_getI zm_137 (Or.inl (by decide)) D137_1 zf_10_205 (Or.inl zs_10_26) zk_127.1).trans ?_
  refine (Q_if_eq (tgt := 8) zm_137 (Or.inl (by decide)) D137_4 (by decide)).trans ?_
  refine zif_c (fun h0_ => ?_) (fun h0_ => ?_)
  · refine (Q_aload_n zm_137 (Or.inl (by decide)) D137_8 rfl).trans ?_
    refine (Q_iload_n zm_137 (Or.inl (by decide)) D137_9 rfl).trans ?_
    refine (Q_putI zm_137 (Or.inl (by decide)) D137_10 zf_10_205 zs_10_26 rfl zk_127.1).trans ?_
    refine (Q_aload_n zm_137 (Or.inl (by decide)) D137_13 rfl).trans ?_
    refine (Q_aload_n zm_137 (Or.inl (by decide)) D137_14 rfl).trans ?_
    refine (Q_getI zm_137 (Or.inl (by decide)) D137_15 zf_10_167 (Or.inl zs_10_23) zk_127.1).trans ?_
    refine (Q_putI zm_137 (Or.inl (by decide)) D137_18 zf_10_208 zs_10_27 rfl zk_127.1).trans ?_
    exact Q_return zm_137 (Or.inl (by decide)) D137_21 rfl
  · exact Q_return zm_137 (Or.inl (by decide)) D137_7 rfl

/-! HandsLetModel.isWord(I)Z -/
theorem D138_0 : decode prog_12_method_12_code 0 = .ok (.aload_n 0, 1) := by decide +kernel
theorem D138_1 : decode prog_12_method_12_code 1 = .ok (.getfield 205, 3) := by decide +kernel
theorem D138_4 : decode prog_12_method_12_code 4 = .ok (.ifCond .ne 22, 3) := by decide +kernel
theorem D138_7 : decode prog_12_method_12_code 7 = .ok (.aload_n 0, 1) := by decide +kernel
theorem D138_8 : decode prog_12_method_12_code 8 = .ok (.getfield 170, 3) := by decide +kernel
theorem D138_11 : decode prog_12_method_12_code 11 = .ok (.ifCond .ne 15, 3) := by decide +kernel
theorem D138_14 : decode prog_12_method_12_code 14 = .ok (.aload_n 0, 1) := by decide +kernel
theorem D138_15 : decode prog_12_method_12_code 15 = .ok (.getfield 180, 3) := by decide +kernel
theorem D138_18 : decode prog_12_method_12_code 18 = .ok (.iload_n 1, 1) := by decide +kernel
theorem D138_19 : decode prog_12_method_12_code 19 = .ok (.if_icmp .ne 7, 3) := by decide +kernel
theorem D138_22 : decode prog_12_method_12_code 22 = .ok (.iconst 1, 1) := by decide +kernel
theorem D138_23 : decode prog_12_method_12_code 23 = .ok (.goto 4, 3) := by decide +kernel
theorem D138_26 : decode prog_12_method_12_code 26 = .ok (.iconst 0, 1) := by decide +kernel
theorem D138_27 : decode prog_12_method_12_code 27 = .ok (.ireturn, 1) := by decide +kernel

theorem b138_0 {d : Nat} {i1 : Int32} {ia : Nat → Nat → Int32} {la : Nat → Nat → Int64} {pl dr : Nat} {cp : Option Nat} {cw : Option Nat} {rp : Option Nat} {K : Option Value → zHP → Prop}  : zWP d 138 0 [some (.ref 127), some (.int i1)] [] (ia, la, zRA pl dr cp cw rp) K = (if ¬ (ia 127 26) = 0 then K (some (.int (0 : Int32))) (ia, la, zRA pl dr cp cw rp) else (if ¬ (ia 127 24) = 0 then K (some (.int (0 : Int32))) (ia, la, zRA pl dr cp cw rp) else (if ¬ (ia 127 25) = i1 then K (some (.int (0 : Int32))) (ia, la, zRA pl dr cp cw rp) else K (some (.int (1 : Int32))) (ia, la, zRA pl dr cp cw rp)))) := by
  refine (Q_aload_n zm_138 (Or.inl (by decide)) D138_0 rfl).trans ?_
  refine (Q_getI zm_138 (Or.inl (by decide)) D138_1 zf_10_205 (Or.inl zs_10_26) zk_127.1).trans ?_
  refine (Q_if_ne (tgt := 26) zm_138 (Or.inl (by decide)) D138_4 (by decide)).trans ?_
  refine zif_c (fun h0_ => ?_) (fun h0_ => ?_)
  · refine (Q_iconst (v := 0) zm_138 (Or.inl (by decide)) D138_26 (by decide)).trans ?_
    exact Q_zreturn zm_138 (Or.inl (by decide)) D138_27 rfl (by decide)
  · refine (Q_aload_n zm_138 (Or.inl (by decide)) D138_7 rfl).trans ?_
    refine (Q_getI zm_138 (Or.inl (by decide)) D138_8 zf_10_170 (Or.inl zs_10_24) zk_127.1).trans ?_
    refine (Q_if_ne (tgt := 26) zm_138 (Or.inl (by decide)) D138_11 (by decide)).trans ?_
    refine zif_c (fun h1_ => ?_) (fun h1_ => ?_)
    · refine (Q_iconst (v := 0) zm_138 (Or.inl (by decide)) D138_26 (by decide)).trans ?_
      exact Q_zreturn zm_138 (Or.inl (by decide)) D138_27 rfl (by decide)
    · refine (Q_aload_n zm_138 (Or.inl (by decide)) D138_14 rfl).trans ?_
      refine (Q_getI zm_138 (Or.inl (by decide)) D138_15 zf_10_180 (Or.inl zs_10_25) zk_127.1).trans ?_
      refine (Q_iload_n zm_138 (Or.inl (by decide)) D138_18 rfl).trans ?_
      refine (Q_ic_ne (tgt := 26) zm_138 (Or.inl (by decide)) D138_19 (by decide)).trans ?_
      refine zif_c (fun h2_ => ?_) (fun h2_ => ?_)
      · refine (Q_iconst (v := 0) zm_138 (Or.inl (by decide)) D138_26 (by decide)).trans ?_
        exact Q_zreturn zm_138 (Or.inl (by decide)) D138_27 rfl (by decide)
      · refine (Q_iconst (v := 1) zm_138 (Or.inl (by decide)) D138_22 (by decide)).trans ?_
        refine (Q_goto (tgt := 27) zm_138 (Or.inl (by decide)) D138_23 (by decide)).trans ?_
        exact Q_zreturn zm_138 (Or.inl (by decide)) D138_27 rfl (by decide)

/-! HandsLetModel.isSign(I)Z -/
theorem D139_0 : decode prog_12_method_13_code 0 = .ok (.aload_n 0, 1) := by decide +kernel
theorem D139_1 : decode prog_12_method_13_code 1 = .ok (.getfield 205, 3) := by decide +kernel
theorem D139_4 : decode prog_12_method_13_code 4 = .ok (.ifCond .ne 23, 3) := by decide +kernel
theorem D139_7 : decode prog_12_method_13_code 7 = .ok (.aload_n 0, 1) := by decide +kernel
theorem D139_8 : decode prog_12_method_13_code 8 = .ok (.getfield 170, 3) := by decide +kernel
theorem D139_11 : decode prog_12_method_13_code 11 = .ok (.iconst 3, 1) := by decide +kernel
theorem D139_12 : decode prog_12_method_13_code 12 = .ok (.if_icmp .ne 15, 3) := by decide +kernel
theorem D139_15 : decode prog_12_method_13_code 15 = .ok (.aload_n 0, 1) := by decide +kernel
theorem D139_16 : decode prog_12_method_13_code 16 = .ok (.getfield 180, 3) := by decide +kernel
theorem D139_19 : decode prog_12_method_13_code 19 = .ok (.iload_n 1, 1) := by decide +kernel
theorem D139_20 : decode prog_12_method_13_code 20 = .ok (.if_icmp .ne 7, 3) := by decide +kernel
theorem D139_23 : decode prog_12_method_13_code 23 = .ok (.iconst 1, 1) := by decide +kernel
theorem D139_24 : decode prog_12_method_13_code 24 = .ok (.goto 4, 3) := by decide +kernel
theorem D139_27 : decode prog_12_method_13_code 27 = .ok (.iconst 0, 1) := by decide +kernel
theorem D139_28 : decode prog_12_method_13_code 28 = .ok (.ireturn, 1) := by decide +kernel

theorem b139_0 {d : Nat} {i1 : Int32} {ia : Nat → Nat → Int32} {la : Nat → Nat → Int64} {pl dr : Nat} {cp : Option Nat} {cw : Option Nat} {rp : Option Nat} {K : Option Value → zHP → Prop}  : zWP d 139 0 [some (.ref 127), some (.int i1)] [] (ia, la, zRA pl dr cp cw rp) K = (if ¬ (ia 127 26) = 0 then K (some (.int (0 : Int32))) (ia, la, zRA pl dr cp cw rp) else (if ¬ (ia 127 24) = (3 : Int32) then K (some (.int (0 : Int32))) (ia, la, zRA pl dr cp cw rp) else (if ¬ (ia 127 25) = i1 then K (some (.int (0 : Int32))) (ia, la, zRA pl dr cp cw rp) else K (some (.int (1 : Int32))) (ia, la, zRA pl dr cp cw rp)))) := by
  refine (Q_aload_n zm_139 (Or.inl (by decide)) D139_0 rfl).trans ?_
  refine (Q_getI zm_139 (Or.inl (by decide)) D139_1 zf_10_205 (Or.inl zs_10_26) zk_127.1).trans ?_
  refine (Q_if_ne (tgt := 27) zm_139 (Or.inl (by decide)) D139_4 (by decide)).trans ?_
  refine zif_c (fun h0_ => ?_) (fun h0_ => ?_)
  · refine (Q_iconst (v := 0) zm_139 (Or.inl (by decide)) D139_27 (by decide)).trans ?_
    exact Q_zreturn zm_139 (Or.inl (by decide)) D139_28 rfl (by decide)
  · refine (Q_aload_n zm_139 (Or.inl (by decide)) D139_7 rfl).trans ?_
    refine (Q_getI zm_139 (Or.inl (by decide)) D139_8 zf_10_170 (Or.inl zs_10_24) zk_127.1).trans ?_
    refine (Q_iconst (v := 3) zm_139 (Or.inl (by decide)) D139_11 (by decide)).trans ?_
    refine (Q_ic_ne (tgt := 27) zm_139 (Or.inl (by decide)) D139_12 (by decide)).trans ?_
    refine zif_c (fun h1_ => ?_) (fun h1_ => ?_)
    · refine (Q_iconst (v := 0) zm_139 (Or.inl (by decide)) D139_27 (by decide)).trans ?_
      exact Q_zreturn zm_139 (Or.inl (by decide)) D139_28 rfl (by decide)
    · refine (Q_aload_n zm_139 (Or.inl (by decide)) D139_15 rfl).trans ?_
      refine (Q_getI zm_139 (Or.inl (by decide)) D139_16 zf_10_180 (Or.inl zs_10_25) zk_127.1).trans ?_
      refine (Q_iload_n zm_139 (Or.inl (by decide)) D139_19 rfl).trans ?_
      refine (Q_ic_ne (tgt := 27) zm_139 (Or.inl (by decide)) D139_20 (by decide)).trans ?_
      refine zif_c (fun h2_ => ?_) (fun h2_ => ?_)
      · refine (Q_iconst (v := 0) zm_139 (Or.inl (by decide)) D139_27 (by decide)).trans ?_
        exact Q_zreturn zm_139 (Or.inl (by decide)) D139_28 rfl (by decide)
      · refine (Q_iconst (v := 1) zm_139 (Or.inl (by decide)) D139_23 (by decide)).trans ?_
        refine (Q_goto (tgt := 28) zm_139 (Or.inl (by decide)) D139_24 (by decide)).trans ?_
        exact Q_zreturn zm_139 (Or.inl (by decide)) D139_28 rfl (by decide)

/-! HandsLetModel.goOn()V -/
theorem D140_0 : decode prog_12_method_14_code 0 = .ok (.aload_n 0, 1) := by decide +kernel
theorem D140_1 : decode prog_12_method_14_code 1 = .ok (.getfield 205, 3) := by decide +kernel
theorem D140_4 : decode prog_12_method_14_code 4 = .ok (.ifCond .ne 7, 3) := by decide +kernel
theorem D140_7 : decode prog_12_method_14_code 7 = .ok (.aload_n 0, 1) := by decide +kernel
theorem D140_8 : decode prog_12_method_14_code 8 = .ok (.invokevirtual 211, 3) := by decide +kernel
theorem D140_11 : decode prog_12_method_14_code 11 = .ok (.return_, 1) := by decide +kernel

theorem b140_0 {d : Nat}  {ia : Nat → Nat → Int32} {la : Nat → Nat → Int64} {pl dr : Nat} {cp : Option Nat} {cw : Option Nat} {rp : Option Nat} {K : Option Value → zHP → Prop}  : zWP (d + 1) 140 0 [some (.ref 127)] [] (ia, la, zRA pl dr cp cw rp) K = (if ¬ (ia 127 26) = 0 then K none (ia, la, zRA pl dr cp cw rp) else zWM d 133 [.ref 127] (ia, la, zRA pl dr cp cw rp) (zK (d + 1) 140 11 [some (.ref 127)] [] K)) := by
  refine (Q_aload_n zm_140 (Or.inl (by decide)) D140_0 rfl).trans ?_
  refine (Q_getI zm_140 (Or.inl (by decide)) D140_1 zf_10_205 (Or.inl zs_10_26) zk_127.1).trans ?_
  refine (Q_if_ne (tgt := 11) zm_140 (Or.inl (by decide)) D140_4 (by decide)).trans ?_
  refine zif_c (fun h0_ => ?_) (fun h0_ => ?_)
  · exact Q_return zm_140 (Or.inl (by decide)) D140_11 rfl
  · refine (Q_aload_n zm_140 (Or.inl (by decide)) D140_7 rfl).trans ?_
    exact Q_callv (as := []) (b := 127) (rest := []) zm_140 (Or.inl (by decide)) D140_8 zc_10_211 rfl zk_127.1 (by decide) (by decide +kernel) (by decide) (by simp [zcat, Value.category]) zm_133 rfl

theorem b140_11 {d : Nat}  {ia : Nat → Nat → Int32} {la : Nat → Nat → Int64} {pl dr : Nat} {cp : Option Nat} {cw : Option Nat} {rp : Option Nat} {K : Option Value → zHP → Prop}  : zWP d 140 11 [some (.ref 127)] [] (ia, la, zRA pl dr cp cw rp) K = K none (ia, la, zRA pl dr cp cw rp) := by
  exact Q_return zm_140 (Or.inl (by decide)) D140_11 rfl

/-! HandsLetModel.numeral(II)I -/
theorem D141_0 : decode prog_12_method_15_code 0 = .ok (.aload_n 0, 1) := by decide +kernel
theorem D141_1 : decode prog_12_method_15_code 1 = .ok (.getfield 205, 3) := by decide +kernel
theorem D141_4 : decode prog_12_method_15_code 4 = .ok (.ifCond .eq 5, 3) := by decide +kernel
theorem D141_7 : decode prog_12_method_15_code 7 = .ok (.iload_n 1, 1) := by decide +kernel
theorem D141_8 : decode prog_12_method_15_code 8 = .ok (.ireturn, 1) := by decide +kernel
theorem D141_9 : decode prog_12_method_15_code 9 = .ok (.aload_n 0, 1) := by decide +kernel
theorem D141_10 : decode prog_12_method_15_code 10 = .ok (.getfield 170, 3) := by decide +kernel
theorem D141_13 : decode prog_12_method_15_code 13 = .ok (.iconst 2, 1) := by decide +kernel
theorem D141_14 : decode prog_12_method_15_code 14 = .ok (.if_icmp .eq 11, 3) := by decide +kernel
theorem D141_17 : decode prog_12_method_15_code 17 = .ok (.aload_n 0, 1) := by decide +kernel
theorem D141_18 : decode prog_12_method_15_code 18 = .ok (.iconst 1, 1) := by decide +kernel
theorem D141_19 : decode prog_12_method_15_code 19 = .ok (.invokevirtual 214, 3) := by decide +kernel
theorem D141_22 : decode prog_12_method_15_code 22 = .ok (.goto 24, 3) := by decide +kernel
theorem D141_25 : decode prog_12_method_15_code 25 = .ok (.aload_n 0, 1) := by decide +kernel
theorem D141_26 : decode prog_12_method_15_code 26 = .ok (.getfield 180, 3) := by decide +kernel
theorem D141_29 : decode prog_12_method_15_code 29 = .ok (.iload_n 1, 1) := by decide +kernel
theorem D141_30 : decode prog_12_method_15_code 30 = .ok (.if_icmp .lt 11, 3) := by decide +kernel
theorem D141_33 : decode prog_12_method_15_code 33 = .ok (.aload_n 0, 1) := by decide +kernel
theorem D141_34 : decode prog_12_method_15_code 34 = .ok (.getfield 180, 3) := by decide +kernel
theorem D141_37 : decode prog_12_method_15_code 37 = .ok (.iload_n 2, 1) := by decide +kernel
theorem D141_38 : decode prog_12_method_15_code 38 = .ok (.if_icmp .le 8, 3) := by decide +kernel
theorem D141_41 : decode prog_12_method_15_code 41 = .ok (.aload_n 0, 1) := by decide +kernel
theorem D141_42 : decode prog_12_method_15_code 42 = .ok (.iconst 2, 1) := by decide +kernel
theorem D141_43 : decode prog_12_method_15_code 43 = .ok (.invokevirtual 214, 3) := by decide +kernel
theorem D141_46 : decode prog_12_method_15_code 46 = .ok (.aload_n 0, 1) := by decide +kernel
theorem D141_47 : decode prog_12_method_15_code 47 = .ok (.getfield 205, 3) := by decide +kernel
theorem D141_50 : decode prog_12_method_15_code 50 = .ok (.ifCond .eq 5, 3) := by decide +kernel
theorem D141_53 : decode prog_12_method_15_code 53 = .ok (.iload_n 1, 1) := by decide +kernel
theorem D141_54 : decode prog_12_method_15_code 54 = .ok (.ireturn, 1) := by decide +kernel
theorem D141_55 : decode prog_12_method_15_code 55 = .ok (.aload_n 0, 1) := by decide +kernel
theorem D141_56 : decode prog_12_method_15_code 56 = .ok (.getfield 180, 3) := by decide +kernel
theorem D141_59 : decode prog_12_method_15_code 59 = .ok (.istore_n 3, 1) := by decide +kernel
theorem D141_60 : decode prog_12_method_15_code 60 = .ok (.aload_n 0, 1) := by decide +kernel
theorem D141_61 : decode prog_12_method_15_code 61 = .ok (.invokevirtual 211, 3) := by decide +kernel
theorem D141_64 : decode prog_12_method_15_code 64 = .ok (.iload_n 3, 1) := by decide +kernel
theorem D141_65 : decode prog_12_method_15_code 65 = .ok (.ireturn, 1) := by decide +kernel

theorem b141_0 {d : Nat} {i1 : Int32} {i2 : Int32} {ia : Nat → Nat → Int32} {la : Nat → Nat → Int64} {pl dr : Nat} {cp : Option Nat} {cw : Option Nat} {rp : Option Nat} {K : Option Value → zHP → Prop}  : zWP (d + 1) 141 0 [some (.ref 127), some (.int i1), some (.int i2), none] [] (ia, la, zRA pl dr cp cw rp) K = (if (ia 127 26) = 0 then (if (ia 127 24) = (2 : Int32) then (if (ia 127 25) < i1 then zWM d 137 [.ref 127, .int (2 : Int32)] (ia, la, zRA pl dr cp cw rp) (zK (d + 1) 141 46 [some (.ref 127), some (.int i1), some (.int i2), none] [] K) else (if (ia 127 25) ≤ i2 then zWP (d + 1) 141 46 [some (.ref 127), some (.int i1), some (.int i2), none] [] (ia, la, zRA pl dr cp cw rp) K else zWM d 137 [.ref 127, .int (2 : Int32)] (ia, la, zRA pl dr cp cw rp) (zK (d + 1) 141 46 [some (.ref 127), some (.int i1), some (.int i2), none] [] K))) else zWM d 137 [.ref 127, .int (1 : Int32)] (ia, la, zRA pl dr cp cw rp) (zK (d + 1) 141 22 [some (.ref 127), some (.int i1), some (.int i2), none] [] K)) else K (some (.int i1)) (ia, la, zRA pl dr cp cw rp)) := by
  refine (Q_aload_n zm_141 (Or.inl (by decide)) D141_0 rfl).trans ?_
  refine (Q_getI zm_141 (Or.inl (by decide)) D141_1 zf_10_205 (Or.inl zs_10_26) zk_127.1).trans ?_
  refine (Q_if_eq (tgt := 9) zm_141 (Or.inl (by decide)) D141_4 (by decide)).trans ?_
  refine zif_c (fun h0_ => ?_) (fun h0_ => ?_)
  · refine (Q_aload_n zm_141 (Or.inl (by decide)) D141_9 rfl).trans ?_
    refine (Q_getI zm_141 (Or.inl (by decide)) D141_10 zf_10_170 (Or.inl zs_10_24) zk_127.1).trans ?_
    refine (Q_iconst (v := 2) zm_141 (Or.inl (by decide)) D141_13 (by decide)).trans ?_
    refine (Q_ic_eq (tgt := 25) zm_141 (Or.inl (by decide)) D141_14 (by decide)).trans ?_
    refine zif_c (fun h1_ => ?_) (fun h1_ => ?_)
    · refine (Q_aload_n zm_141 (Or.inl (by decide)) D141_25 rfl).trans ?_
      refine (Q_getI zm_141 (Or.inl (by decide)) D141_26 zf_10_180 (Or.inl zs_10_25) zk_127.1).trans ?_
      refine (Q_iload_n zm_141 (Or.inl (by decide)) D141_29 rfl).trans ?_
      refine (Q_ic_lt (tgt := 41) zm_141 (Or.inl (by decide)) D141_30 (by decide)).trans ?_
      refine zif_c (fun h2_ => ?_) (fun h2_ => ?_)
      · refine (Q_aload_n zm_141 (Or.inl (by decide)) D141_41 rfl).trans ?_
        refine (Q_iconst (v := 2) zm_141 (Or.inl (by decide)) D141_42 (by decide)).trans ?_
        exact Q_callv (as := [.int (2 : Int32)]) (b := 127) (rest := []) zm_141 (Or.inl (by decide)) D141_43 zc_10_214 rfl zk_127.1 (by decide) (by decide +kernel) (by decide) (by simp [zcat, Value.category]) zm_137 rfl
      · refine (Q_aload_n zm_141 (Or.inl (by decide)) D141_33 rfl).trans ?_
        refine (Q_getI zm_141 (Or.inl (by decide)) D141_34 zf_10_180 (Or.inl zs_10_25) zk_127.1).trans ?_
        refine (Q_iload_n zm_141 (Or.inl (by decide)) D141_37 rfl).trans ?_
        refine (Q_ic_le (tgt := 46) zm_141 (Or.inl (by decide)) D141_38 (by decide)).trans ?_
        refine zif_c (fun h3_ => ?_) (fun h3_ => ?_)
        · rfl
        · refine (Q_aload_n zm_141 (Or.inl (by decide)) D141_41 rfl).trans ?_
          refine (Q_iconst (v := 2) zm_141 (Or.inl (by decide)) D141_42 (by decide)).trans ?_
          exact Q_callv (as := [.int (2 : Int32)]) (b := 127) (rest := []) zm_141 (Or.inl (by decide)) D141_43 zc_10_214 rfl zk_127.1 (by decide) (by decide +kernel) (by decide) (by simp [zcat, Value.category]) zm_137 rfl
    · refine (Q_aload_n zm_141 (Or.inl (by decide)) D141_17 rfl).trans ?_
      refine (Q_iconst (v := 1) zm_141 (Or.inl (by decide)) D141_18 (by decide)).trans ?_
      exact Q_callv (as := [.int (1 : Int32)]) (b := 127) (rest := []) zm_141 (Or.inl (by decide)) D141_19 zc_10_214 rfl zk_127.1 (by decide) (by decide +kernel) (by decide) (by simp [zcat, Value.category]) zm_137 rfl
  · refine (Q_iload_n zm_141 (Or.inl (by decide)) D141_7 rfl).trans ?_
    exact Q_ireturn zm_141 (Or.inl (by decide)) D141_8 rfl

theorem b141_46 {d : Nat} {i1 : Int32} {i2 : Int32} {ia : Nat → Nat → Int32} {la : Nat → Nat → Int64} {pl dr : Nat} {cp : Option Nat} {cw : Option Nat} {rp : Option Nat} {K : Option Value → zHP → Prop}  : zWP (d + 1) 141 46 [some (.ref 127), some (.int i1), some (.int i2), none] [] (ia, la, zRA pl dr cp cw rp) K = (if (ia 127 26) = 0 then zWM d 133 [.ref 127] (ia, la, zRA pl dr cp cw rp) (zK (d + 1) 141 64 [some (.ref 127), some (.int i1), some (.int i2), some (.int (ia 127 25))] [] K) else K (some (.int i1)) (ia, la, zRA pl dr cp cw rp)) := by
  refine (Q_aload_n zm_141 (Or.inl (by decide)) D141_46 rfl).trans ?_
  refine (Q_getI zm_141 (Or.inl (by decide)) D141_47 zf_10_205 (Or.inl zs_10_26) zk_127.1).trans ?_
  refine (Q_if_eq (tgt := 55) zm_141 (Or.inl (by decide)) D141_50 (by decide)).trans ?_
  refine zif_c (fun h0_ => ?_) (fun h0_ => ?_)
  · refine (Q_aload_n zm_141 (Or.inl (by decide)) D141_55 rfl).trans ?_
    refine (Q_getI zm_141 (Or.inl (by decide)) D141_56 zf_10_180 (Or.inl zs_10_25) zk_127.1).trans ?_
    refine (Q_istore_n (ls' := [some (.ref 127), some (.int i1), some (.int i2), some (.int (ia 127 25))]) zm_141 (Or.inl (by decide)) D141_59 rfl (Nat.le_of_ble_eq_true rfl) rfl).trans ?_
    refine (Q_aload_n zm_141 (Or.inl (by decide)) D141_60 rfl).trans ?_
    exact Q_callv (as := []) (b := 127) (rest := []) zm_141 (Or.inl (by decide)) D141_61 zc_10_211 rfl zk_127.1 (by decide) (by decide +kernel) (by decide) (by simp [zcat, Value.category]) zm_133 rfl
  · refine (Q_iload_n zm_141 (Or.inl (by decide)) D141_53 rfl).trans ?_
    exact Q_ireturn zm_141 (Or.inl (by decide)) D141_54 rfl

theorem b141_22 {d : Nat} {i1 : Int32} {i2 : Int32} {ia : Nat → Nat → Int32} {la : Nat → Nat → Int64} {pl dr : Nat} {cp : Option Nat} {cw : Option Nat} {rp : Option Nat} {K : Option Value → zHP → Prop}  : zWP d 141 22 [some (.ref 127), some (.int i1), some (.int i2), none] [] (ia, la, zRA pl dr cp cw rp) K = zWP d 141 46 [some (.ref 127), some (.int i1), some (.int i2), none] [] (ia, la, zRA pl dr cp cw rp) K := by
  refine (Q_goto (tgt := 46) zm_141 (Or.inl (by decide)) D141_22 (by decide)).trans ?_
  rfl

theorem b141_64 {d : Nat} {i1 : Int32} {i2 : Int32} {i3 : Int32} {ia : Nat → Nat → Int32} {la : Nat → Nat → Int64} {pl dr : Nat} {cp : Option Nat} {cw : Option Nat} {rp : Option Nat} {K : Option Value → zHP → Prop}  : zWP d 141 64 [some (.ref 127), some (.int i1), some (.int i2), some (.int i3)] [] (ia, la, zRA pl dr cp cw rp) K = K (some (.int i3)) (ia, la, zRA pl dr cp cw rp) := by
  refine (Q_iload_n zm_141 (Or.inl (by decide)) D141_64 rfl).trans ?_
  exact Q_ireturn zm_141 (Or.inl (by decide)) D141_65 rfl

/-! HandsLetModel.found([IIII)I -/
theorem D142_0 : decode prog_12_method_16_code 0 = .ok (.iconst 0, 1) := by decide +kernel
theorem D142_1 : decode prog_12_method_16_code 1 = .ok (.istore 4, 2) := by decide +kernel
theorem D142_3 : decode prog_12_method_16_code 3 = .ok (.iload 4, 2) := by decide +kernel
theorem D142_5 : decode prog_12_method_16_code 5 = .ok (.iload_n 2, 1) := by decide +kernel
theorem D142_6 : decode prog_12_method_16_code 6 = .ok (.if_icmp .ge 22, 3) := by decide +kernel
theorem D142_9 : decode prog_12_method_16_code 9 = .ok (.aload_n 0, 1) := by decide +kernel
theorem D142_10 : decode prog_12_method_16_code 10 = .ok (.iload_n 1, 1) := by decide +kernel
theorem D142_11 : decode prog_12_method_16_code 11 = .ok (.iload 4, 2) := by decide +kernel
theorem D142_13 : decode prog_12_method_16_code 13 = .ok (.iadd, 1) := by decide +kernel
theorem D142_14 : decode prog_12_method_16_code 14 = .ok (.iaload, 1) := by decide +kernel
theorem D142_15 : decode prog_12_method_16_code 15 = .ok (.iload_n 3, 1) := by decide +kernel
theorem D142_16 : decode prog_12_method_16_code 16 = .ok (.if_icmp .ne 6, 3) := by decide +kernel
theorem D142_19 : decode prog_12_method_16_code 19 = .ok (.iload 4, 2) := by decide +kernel
theorem D142_21 : decode prog_12_method_16_code 21 = .ok (.ireturn, 1) := by decide +kernel
theorem D142_22 : decode prog_12_method_16_code 22 = .ok (.iinc 4 1, 3) := by decide +kernel
theorem D142_25 : decode prog_12_method_16_code 25 = .ok (.goto (-22), 3) := by decide +kernel
theorem D142_28 : decode prog_12_method_16_code 28 = .ok (.iconst (-1), 1) := by decide +kernel
theorem D142_29 : decode prog_12_method_16_code 29 = .ok (.ireturn, 1) := by decide +kernel

theorem b142_0 {d : Nat} {r0 : Nat} {i1 : Int32} {i2 : Int32} {i3 : Int32} {ia : Nat → Nat → Int32} {la : Nat → Nat → Int64} {pl dr : Nat} {cp : Option Nat} {cw : Option Nat} {rp : Option Nat} {K : Option Value → zHP → Prop}  : zWP d 142 0 [some (.ref r0), some (.int i1), some (.int i2), some (.int i3), none] [] (ia, la, zRA pl dr cp cw rp) K = zWP d 142 3 [some (.ref r0), some (.int i1), some (.int i2), some (.int i3), some (.int (0 : Int32))] [] (ia, la, zRA pl dr cp cw rp) K := by
  refine (Q_iconst (v := 0) zm_142 (Or.inl (by decide)) D142_0 (by decide)).trans ?_
  refine (Q_istore (ls' := [some (.ref r0), some (.int i1), some (.int i2), some (.int i3), some (.int (0 : Int32))]) zm_142 (Or.inl (by decide)) D142_1 rfl (Nat.le_of_ble_eq_true rfl) rfl).trans ?_
  rfl

theorem b142_3 {d : Nat} {r0 : Nat} {i1 : Int32} {i2 : Int32} {i3 : Int32} {i4 : Int32} {ia : Nat → Nat → Int32} {la : Nat → Nat → Int64} {pl dr : Nat} {cp : Option Nat} {cw : Option Nat} {rp : Option Nat} {K : Option Value → zHP → Prop}  : zWP d 142 3 [some (.ref r0), some (.int i1), some (.int i2), some (.int i3), some (.int i4)] [] (ia, la, zRA pl dr cp cw rp) K = (if i2 ≤ i4 then K (some (.int (-1 : Int32))) (ia, la, zRA pl dr cp cw rp) else ((zkd r0 = 100 ∧ vp_in (i1 + i4) (zln r0)) ∧ (if ¬ (ia r0 ((i1 + i4)).toNatClampNeg) = i3 then zWP d 142 3 [some (.ref r0), some (.int i1), some (.int i2), some (.int i3), some (.int (i4 + (1 : Int32)))] [] (ia, la, zRA pl dr cp cw rp) K else K (some (.int i4)) (ia, la, zRA pl dr cp cw rp)))) := by
  refine (Q_iload zm_142 (Or.inl (by decide)) D142_3 rfl).trans ?_
  refine (Q_iload_n zm_142 (Or.inl (by decide)) D142_5 rfl).trans ?_
  refine (Q_ic_ge (tgt := 28) zm_142 (Or.inl (by decide)) D142_6 (by decide)).trans ?_
  refine zif_c (fun h0_ => ?_) (fun h0_ => ?_)
  · refine (Q_iconst (v := -1) zm_142 (Or.inl (by decide)) D142_28 (by decide)).trans ?_
    exact Q_ireturn zm_142 (Or.inl (by decide)) D142_29 rfl
  · refine (Q_aload_n zm_142 (Or.inl (by decide)) D142_9 rfl).trans ?_
    refine (Q_iload_n zm_142 (Or.inl (by decide)) D142_10 rfl).trans ?_
    refine (Q_iload zm_142 (Or.inl (by decide)) D142_11 rfl).trans ?_
    refine (Q_iadd zm_142 (Or.inl (by decide)) D142_13).trans ?_
    refine (Q_ialoadV zm_142 (Or.inl (by decide)) D142_14 (by decide)).trans ?_
    refine zand_c (fun h1_ => ?_)
    refine (Q_iload_n zm_142 (Or.inl (by decide)) D142_15 rfl).trans ?_
    refine (Q_ic_ne (tgt := 22) zm_142 (Or.inl (by decide)) D142_16 (by decide)).trans ?_
    refine zif_c (fun h2_ => ?_) (fun h2_ => ?_)
    · refine (Q_iinc (v := 1) (ls' := [some (.ref r0), some (.int i1), some (.int i2), some (.int i3), some (.int (i4 + (1 : Int32)))]) zm_142 (Or.inl (by decide)) D142_22 rfl rfl (by decide) rfl).trans ?_
      refine (Q_goto (tgt := 3) zm_142 (Or.inl (by decide)) D142_25 (by decide)).trans ?_
      rfl
    · refine (Q_iload zm_142 (Or.inl (by decide)) D142_19 rfl).trans ?_
      exact Q_ireturn zm_142 (Or.inl (by decide)) D142_21 rfl

/-! HandsLetModel.fresh([III)I -/
theorem D143_0 : decode prog_12_method_17_code 0 = .ok (.aload_n 0, 1) := by decide +kernel
theorem D143_1 : decode prog_12_method_17_code 1 = .ok (.getfield 205, 3) := by decide +kernel
theorem D143_4 : decode prog_12_method_17_code 4 = .ok (.ifCond .eq 5, 3) := by decide +kernel
theorem D143_7 : decode prog_12_method_17_code 7 = .ok (.iconst 0, 1) := by decide +kernel
theorem D143_8 : decode prog_12_method_17_code 8 = .ok (.ireturn, 1) := by decide +kernel
theorem D143_9 : decode prog_12_method_17_code 9 = .ok (.aload_n 0, 1) := by decide +kernel
theorem D143_10 : decode prog_12_method_17_code 10 = .ok (.getfield 170, 3) := by decide +kernel
theorem D143_13 : decode prog_12_method_17_code 13 = .ok (.iconst 1, 1) := by decide +kernel
theorem D143_14 : decode prog_12_method_17_code 14 = .ok (.if_icmp .eq 11, 3) := by decide +kernel
theorem D143_17 : decode prog_12_method_17_code 17 = .ok (.aload_n 0, 1) := by decide +kernel
theorem D143_18 : decode prog_12_method_17_code 18 = .ok (.iconst 1, 1) := by decide +kernel
theorem D143_19 : decode prog_12_method_17_code 19 = .ok (.invokevirtual 214, 3) := by decide +kernel
theorem D143_22 : decode prog_12_method_17_code 22 = .ok (.goto 22, 3) := by decide +kernel
theorem D143_25 : decode prog_12_method_17_code 25 = .ok (.aload_n 1, 1) := by decide +kernel
theorem D143_26 : decode prog_12_method_17_code 26 = .ok (.iload_n 2, 1) := by decide +kernel
theorem D143_27 : decode prog_12_method_17_code 27 = .ok (.iload_n 3, 1) := by decide +kernel
theorem D143_28 : decode prog_12_method_17_code 28 = .ok (.aload_n 0, 1) := by decide +kernel
theorem D143_29 : decode prog_12_method_17_code 29 = .ok (.getfield 180, 3) := by decide +kernel
theorem D143_32 : decode prog_12_method_17_code 32 = .ok (.invokestatic 217, 3) := by decide +kernel
theorem D143_35 : decode prog_12_method_17_code 35 = .ok (.iconst (-1), 1) := by decide +kernel
theorem D143_36 : decode prog_12_method_17_code 36 = .ok (.if_icmp .eq 8, 3) := by decide +kernel
theorem D143_39 : decode prog_12_method_17_code 39 = .ok (.aload_n 0, 1) := by decide +kernel
theorem D143_40 : decode prog_12_method_17_code 40 = .ok (.iconst 3, 1) := by decide +kernel
theorem D143_41 : decode prog_12_method_17_code 41 = .ok (.invokevirtual 214, 3) := by decide +kernel
theorem D143_44 : decode prog_12_method_17_code 44 = .ok (.aload_n 0, 1) := by decide +kernel
theorem D143_45 : decode prog_12_method_17_code 45 = .ok (.getfield 205, 3) := by decide +kernel
theorem D143_48 : decode prog_12_method_17_code 48 = .ok (.ifCond .eq 5, 3) := by decide +kernel
theorem D143_51 : decode prog_12_method_17_code 51 = .ok (.iconst 0, 1) := by decide +kernel
theorem D143_52 : decode prog_12_method_17_code 52 = .ok (.ireturn, 1) := by decide +kernel
theorem D143_53 : decode prog_12_method_17_code 53 = .ok (.aload_n 0, 1) := by decide +kernel
theorem D143_54 : decode prog_12_method_17_code 54 = .ok (.getfield 180, 3) := by decide +kernel
theorem D143_57 : decode prog_12_method_17_code 57 = .ok (.istore 4, 2) := by decide +kernel
theorem D143_59 : decode prog_12_method_17_code 59 = .ok (.aload_n 0, 1) := by decide +kernel
theorem D143_60 : decode prog_12_method_17_code 60 = .ok (.invokevirtual 211, 3) := by decide +kernel
theorem D143_63 : decode prog_12_method_17_code 63 = .ok (.iload 4, 2) := by decide +kernel
theorem D143_65 : decode prog_12_method_17_code 65 = .ok (.ireturn, 1) := by decide +kernel

theorem b143_0 {d : Nat} {r1 : Nat} {i2 : Int32} {i3 : Int32} {ia : Nat → Nat → Int32} {la : Nat → Nat → Int64} {pl dr : Nat} {cp : Option Nat} {cw : Option Nat} {rp : Option Nat} {K : Option Value → zHP → Prop}  : zWP (d + 1) 143 0 [some (.ref 127), some (.ref r1), some (.int i2), some (.int i3), none] [] (ia, la, zRA pl dr cp cw rp) K = (if (ia 127 26) = 0 then (if (ia 127 24) = (1 : Int32) then zWM d 142 [.ref r1, .int i2, .int i3, .int (ia 127 25)] (ia, la, zRA pl dr cp cw rp) (zK (d + 1) 143 35 [some (.ref 127), some (.ref r1), some (.int i2), some (.int i3), none] [] K) else zWM d 137 [.ref 127, .int (1 : Int32)] (ia, la, zRA pl dr cp cw rp) (zK (d + 1) 143 22 [some (.ref 127), some (.ref r1), some (.int i2), some (.int i3), none] [] K)) else K (some (.int (0 : Int32))) (ia, la, zRA pl dr cp cw rp)) := by
  refine (Q_aload_n zm_143 (Or.inl (by decide)) D143_0 rfl).trans ?_
  refine (Q_getI zm_143 (Or.inl (by decide)) D143_1 zf_10_205 (Or.inl zs_10_26) zk_127.1).trans ?_
  refine (Q_if_eq (tgt := 9) zm_143 (Or.inl (by decide)) D143_4 (by decide)).trans ?_
  refine zif_c (fun h0_ => ?_) (fun h0_ => ?_)
  · refine (Q_aload_n zm_143 (Or.inl (by decide)) D143_9 rfl).trans ?_
    refine (Q_getI zm_143 (Or.inl (by decide)) D143_10 zf_10_170 (Or.inl zs_10_24) zk_127.1).trans ?_
    refine (Q_iconst (v := 1) zm_143 (Or.inl (by decide)) D143_13 (by decide)).trans ?_
    refine (Q_ic_eq (tgt := 25) zm_143 (Or.inl (by decide)) D143_14 (by decide)).trans ?_
    refine zif_c (fun h1_ => ?_) (fun h1_ => ?_)
    · refine (Q_aload_n zm_143 (Or.inl (by decide)) D143_25 rfl).trans ?_
      refine (Q_iload_n zm_143 (Or.inl (by decide)) D143_26 rfl).trans ?_
      refine (Q_iload_n zm_143 (Or.inl (by decide)) D143_27 rfl).trans ?_
      refine (Q_aload_n zm_143 (Or.inl (by decide)) D143_28 rfl).trans ?_
      refine (Q_getI zm_143 (Or.inl (by decide)) D143_29 zf_10_180 (Or.inl zs_10_25) zk_127.1).trans ?_
      exact Q_calls (as := [.ref r1, .int i2, .int i3, .int (ia 127 25)]) (rest := []) zm_143 (Or.inl (by decide)) D143_32 zc_10_217 rfl (by decide) (by simp [zcat, Value.category]) zm_142 rfl
    · refine (Q_aload_n zm_143 (Or.inl (by decide)) D143_17 rfl).trans ?_
      refine (Q_iconst (v := 1) zm_143 (Or.inl (by decide)) D143_18 (by decide)).trans ?_
      exact Q_callv (as := [.int (1 : Int32)]) (b := 127) (rest := []) zm_143 (Or.inl (by decide)) D143_19 zc_10_214 rfl zk_127.1 (by decide) (by decide +kernel) (by decide) (by simp [zcat, Value.category]) zm_137 rfl
  · refine (Q_iconst (v := 0) zm_143 (Or.inl (by decide)) D143_7 (by decide)).trans ?_
    exact Q_ireturn zm_143 (Or.inl (by decide)) D143_8 rfl

theorem b143_35 {d : Nat} {r1 : Nat} {i2 : Int32} {i3 : Int32} {s0 : Int32} {ia : Nat → Nat → Int32} {la : Nat → Nat → Int64} {pl dr : Nat} {cp : Option Nat} {cw : Option Nat} {rp : Option Nat} {K : Option Value → zHP → Prop}  : zWP (d + 1) 143 35 [some (.ref 127), some (.ref r1), some (.int i2), some (.int i3), none] [.int s0] (ia, la, zRA pl dr cp cw rp) K = (if s0 = (-1 : Int32) then zWP (d + 1) 143 44 [some (.ref 127), some (.ref r1), some (.int i2), some (.int i3), none] [] (ia, la, zRA pl dr cp cw rp) K else zWM d 137 [.ref 127, .int (3 : Int32)] (ia, la, zRA pl dr cp cw rp) (zK (d + 1) 143 44 [some (.ref 127), some (.ref r1), some (.int i2), some (.int i3), none] [] K)) := by
  refine (Q_iconst (v := -1) zm_143 (Or.inl (by decide)) D143_35 (by decide)).trans ?_
  refine (Q_ic_eq (tgt := 44) zm_143 (Or.inl (by decide)) D143_36 (by decide)).trans ?_
  refine zif_c (fun h0_ => ?_) (fun h0_ => ?_)
  · rfl
  · refine (Q_aload_n zm_143 (Or.inl (by decide)) D143_39 rfl).trans ?_
    refine (Q_iconst (v := 3) zm_143 (Or.inl (by decide)) D143_40 (by decide)).trans ?_
    exact Q_callv (as := [.int (3 : Int32)]) (b := 127) (rest := []) zm_143 (Or.inl (by decide)) D143_41 zc_10_214 rfl zk_127.1 (by decide) (by decide +kernel) (by decide) (by simp [zcat, Value.category]) zm_137 rfl

theorem b143_22 {d : Nat} {r1 : Nat} {i2 : Int32} {i3 : Int32} {ia : Nat → Nat → Int32} {la : Nat → Nat → Int64} {pl dr : Nat} {cp : Option Nat} {cw : Option Nat} {rp : Option Nat} {K : Option Value → zHP → Prop}  : zWP d 143 22 [some (.ref 127), some (.ref r1), some (.int i2), some (.int i3), none] [] (ia, la, zRA pl dr cp cw rp) K = zWP d 143 44 [some (.ref 127), some (.ref r1), some (.int i2), some (.int i3), none] [] (ia, la, zRA pl dr cp cw rp) K := by
  refine (Q_goto (tgt := 44) zm_143 (Or.inl (by decide)) D143_22 (by decide)).trans ?_
  rfl

theorem b143_44 {d : Nat} {r1 : Nat} {i2 : Int32} {i3 : Int32} {ia : Nat → Nat → Int32} {la : Nat → Nat → Int64} {pl dr : Nat} {cp : Option Nat} {cw : Option Nat} {rp : Option Nat} {K : Option Value → zHP → Prop}  : zWP (d + 1) 143 44 [some (.ref 127), some (.ref r1), some (.int i2), some (.int i3), none] [] (ia, la, zRA pl dr cp cw rp) K = (if (ia 127 26) = 0 then zWM d 133 [.ref 127] (ia, la, zRA pl dr cp cw rp) (zK (d + 1) 143 63 [some (.ref 127), some (.ref r1), some (.int i2), some (.int i3), some (.int (ia 127 25))] [] K) else K (some (.int (0 : Int32))) (ia, la, zRA pl dr cp cw rp)) := by
  refine (Q_aload_n zm_143 (Or.inl (by decide)) D143_44 rfl).trans ?_
  refine (Q_getI zm_143 (Or.inl (by decide)) D143_45 zf_10_205 (Or.inl zs_10_26) zk_127.1).trans ?_
  refine (Q_if_eq (tgt := 53) zm_143 (Or.inl (by decide)) D143_48 (by decide)).trans ?_
  refine zif_c (fun h0_ => ?_) (fun h0_ => ?_)
  · refine (Q_aload_n zm_143 (Or.inl (by decide)) D143_53 rfl).trans ?_
    refine (Q_getI zm_143 (Or.inl (by decide)) D143_54 zf_10_180 (Or.inl zs_10_25) zk_127.1).trans ?_
    refine (Q_istore (ls' := [some (.ref 127), some (.ref r1), some (.int i2), some (.int i3), some (.int (ia 127 25))]) zm_143 (Or.inl (by decide)) D143_57 rfl (Nat.le_of_ble_eq_true rfl) rfl).trans ?_
    refine (Q_aload_n zm_143 (Or.inl (by decide)) D143_59 rfl).trans ?_
    exact Q_callv (as := []) (b := 127) (rest := []) zm_143 (Or.inl (by decide)) D143_60 zc_10_211 rfl zk_127.1 (by decide) (by decide +kernel) (by decide) (by simp [zcat, Value.category]) zm_133 rfl
  · refine (Q_iconst (v := 0) zm_143 (Or.inl (by decide)) D143_51 (by decide)).trans ?_
    exact Q_ireturn zm_143 (Or.inl (by decide)) D143_52 rfl

theorem b143_63 {d : Nat} {r1 : Nat} {i2 : Int32} {i3 : Int32} {i4 : Int32} {ia : Nat → Nat → Int32} {la : Nat → Nat → Int64} {pl dr : Nat} {cp : Option Nat} {cw : Option Nat} {rp : Option Nat} {K : Option Value → zHP → Prop}  : zWP d 143 63 [some (.ref 127), some (.ref r1), some (.int i2), some (.int i3), some (.int i4)] [] (ia, la, zRA pl dr cp cw rp) K = K (some (.int i4)) (ia, la, zRA pl dr cp cw rp) := by
  refine (Q_iload zm_143 (Or.inl (by decide)) D143_63 rfl).trans ?_
  exact Q_ireturn zm_143 (Or.inl (by decide)) D143_65 rfl

/-! HandsLetModel.fresher(I)I -/
theorem D144_0 : decode prog_12_method_18_code 0 = .ok (.aload_n 0, 1) := by decide +kernel
theorem D144_1 : decode prog_12_method_18_code 1 = .ok (.getfield 13, 3) := by decide +kernel
theorem D144_4 : decode prog_12_method_18_code 4 = .ok (.bipush 7, 2) := by decide +kernel
theorem D144_6 : decode prog_12_method_18_code 6 = .ok (.iload_n 1, 1) := by decide +kernel
theorem D144_7 : decode prog_12_method_18_code 7 = .ok (.iadd, 1) := by decide +kernel
theorem D144_8 : decode prog_12_method_18_code 8 = .ok (.iaload, 1) := by decide +kernel
theorem D144_9 : decode prog_12_method_18_code 9 = .ok (.ireturn, 1) := by decide +kernel

theorem b144_0 {d : Nat} {i1 : Int32} {ia : Nat → Nat → Int32} {la : Nat → Nat → Int64} {pl dr : Nat} {cp : Option Nat} {cw : Option Nat} {rp : Option Nat} {K : Option Value → zHP → Prop}  : zWP d 144 0 [some (.ref 127), some (.int i1)] [] (ia, la, zRA pl dr cp cw rp) K = (vp_in ((7 : Int32) + i1) 14 ∧ K (some (.int (ia 129 (((7 : Int32) + i1)).toNatClampNeg))) (ia, la, zRA pl dr cp cw rp)) := by
  refine (Q_aload_n zm_144 (Or.inl (by decide)) D144_0 rfl).trans ?_
  refine (Q_getR (q := 129) zm_144 (Or.inl (by decide)) D144_1 zf_10_13 zs_10_3 zk_127.1 rfl).trans ?_
  refine (Q_bipush (v := 7) zm_144 (Or.inl (by decide)) D144_4 (by decide)).trans ?_
  refine (Q_iload_n zm_144 (Or.inl (by decide)) D144_6 rfl).trans ?_
  refine (Q_iadd zm_144 (Or.inl (by decide)) D144_7).trans ?_
  refine (Q_iaload zm_144 (Or.inl (by decide)) D144_8 zk_129.1 zk_129.2).trans ?_
  refine zand_c (fun h0_ => ?_)
  exact Q_ireturn zm_144 (Or.inl (by decide)) D144_9 rfl

/-! HandsLetModel.reads(II)V -/
theorem D145_0 : decode prog_12_method_19_code 0 = .ok (.aload_n 0, 1) := by decide +kernel
theorem D145_1 : decode prog_12_method_19_code 1 = .ok (.getfield 13, 3) := by decide +kernel
theorem D145_4 : decode prog_12_method_19_code 4 = .ok (.bipush 7, 2) := by decide +kernel
theorem D145_6 : decode prog_12_method_19_code 6 = .ok (.iload_n 1, 1) := by decide +kernel
theorem D145_7 : decode prog_12_method_19_code 7 = .ok (.iadd, 1) := by decide +kernel
theorem D145_8 : decode prog_12_method_19_code 8 = .ok (.iload_n 2, 1) := by decide +kernel
theorem D145_9 : decode prog_12_method_19_code 9 = .ok (.iastore, 1) := by decide +kernel
theorem D145_10 : decode prog_12_method_19_code 10 = .ok (.return_, 1) := by decide +kernel

theorem b145_0 {d : Nat} {i1 : Int32} {i2 : Int32} {ia : Nat → Nat → Int32} {la : Nat → Nat → Int64} {pl dr : Nat} {cp : Option Nat} {cw : Option Nat} {rp : Option Nat} {K : Option Value → zHP → Prop}  : zWP d 145 0 [some (.ref 127), some (.int i1), some (.int i2)] [] (ia, la, zRA pl dr cp cw rp) K = (vp_in ((7 : Int32) + i1) 14 ∧ K none ((zu ia 129 (((7 : Int32) + i1)).toNatClampNeg i2), la, zRA pl dr cp cw rp)) := by
  refine (Q_aload_n zm_145 (Or.inl (by decide)) D145_0 rfl).trans ?_
  refine (Q_getR (q := 129) zm_145 (Or.inl (by decide)) D145_1 zf_10_13 zs_10_3 zk_127.1 rfl).trans ?_
  refine (Q_bipush (v := 7) zm_145 (Or.inl (by decide)) D145_4 (by decide)).trans ?_
  refine (Q_iload_n zm_145 (Or.inl (by decide)) D145_6 rfl).trans ?_
  refine (Q_iadd zm_145 (Or.inl (by decide)) D145_7).trans ?_
  refine (Q_iload_n zm_145 (Or.inl (by decide)) D145_8 rfl).trans ?_
  refine (Q_iastore zm_145 (Or.inl (by decide)) D145_9 zk_129.1 zk_129.2).trans ?_
  refine zand_c (fun h0_ => ?_)
  exact Q_return zm_145 (Or.inl (by decide)) D145_10 rfl

/-! HandsLetModel.manAtHand()I -/
theorem D146_0 : decode prog_12_method_20_code 0 = .ok (.aload_n 0, 1) := by decide +kernel
theorem D146_1 : decode prog_12_method_20_code 1 = .ok (.getfield 205, 3) := by decide +kernel
theorem D146_4 : decode prog_12_method_20_code 4 = .ok (.ifCond .eq 5, 3) := by decide +kernel
theorem D146_7 : decode prog_12_method_20_code 7 = .ok (.iconst 0, 1) := by decide +kernel
theorem D146_8 : decode prog_12_method_20_code 8 = .ok (.ireturn, 1) := by decide +kernel
theorem D146_9 : decode prog_12_method_20_code 9 = .ok (.aload_n 0, 1) := by decide +kernel
theorem D146_10 : decode prog_12_method_20_code 10 = .ok (.getfield 170, 3) := by decide +kernel
theorem D146_13 : decode prog_12_method_20_code 13 = .ok (.iconst 1, 1) := by decide +kernel
theorem D146_14 : decode prog_12_method_20_code 14 = .ok (.if_icmp .eq 8, 3) := by decide +kernel
theorem D146_17 : decode prog_12_method_20_code 17 = .ok (.aload_n 0, 1) := by decide +kernel
theorem D146_18 : decode prog_12_method_20_code 18 = .ok (.iconst 1, 1) := by decide +kernel
theorem D146_19 : decode prog_12_method_20_code 19 = .ok (.invokevirtual 214, 3) := by decide +kernel
theorem D146_22 : decode prog_12_method_20_code 22 = .ok (.aload_n 0, 1) := by decide +kernel
theorem D146_23 : decode prog_12_method_20_code 23 = .ok (.getfield 205, 3) := by decide +kernel
theorem D146_26 : decode prog_12_method_20_code 26 = .ok (.ifCond .ne 24, 3) := by decide +kernel
theorem D146_29 : decode prog_12_method_20_code 29 = .ok (.aload_n 0, 1) := by decide +kernel
theorem D146_30 : decode prog_12_method_20_code 30 = .ok (.getfield 16, 3) := by decide +kernel
theorem D146_33 : decode prog_12_method_20_code 33 = .ok (.bipush 6, 2) := by decide +kernel
theorem D146_35 : decode prog_12_method_20_code 35 = .ok (.aload_n 0, 1) := by decide +kernel
theorem D146_36 : decode prog_12_method_20_code 36 = .ok (.iconst 0, 1) := by decide +kernel
theorem D146_37 : decode prog_12_method_20_code 37 = .ok (.invokevirtual 221, 3) := by decide +kernel
theorem D146_40 : decode prog_12_method_20_code 40 = .ok (.aload_n 0, 1) := by decide +kernel
theorem D146_41 : decode prog_12_method_20_code 41 = .ok (.getfield 180, 3) := by decide +kernel
theorem D146_44 : decode prog_12_method_20_code 44 = .ok (.invokestatic 217, 3) := by decide +kernel
theorem D146_47 : decode prog_12_method_20_code 47 = .ok (.goto 4, 3) := by decide +kernel
theorem D146_50 : decode prog_12_method_20_code 50 = .ok (.iconst 0, 1) := by decide +kernel
theorem D146_51 : decode prog_12_method_20_code 51 = .ok (.istore_n 1, 1) := by decide +kernel
theorem D146_52 : decode prog_12_method_20_code 52 = .ok (.aload_n 0, 1) := by decide +kernel
theorem D146_53 : decode prog_12_method_20_code 53 = .ok (.getfield 205, 3) := by decide +kernel
theorem D146_56 : decode prog_12_method_20_code 56 = .ok (.ifCond .ne 13, 3) := by decide +kernel
theorem D146_59 : decode prog_12_method_20_code 59 = .ok (.iload_n 1, 1) := by decide +kernel
theorem D146_60 : decode prog_12_method_20_code 60 = .ok (.iconst (-1), 1) := by decide +kernel
theorem D146_61 : decode prog_12_method_20_code 61 = .ok (.if_icmp .ne 8, 3) := by decide +kernel
theorem D146_64 : decode prog_12_method_20_code 64 = .ok (.aload_n 0, 1) := by decide +kernel
theorem D146_65 : decode prog_12_method_20_code 65 = .ok (.iconst 4, 1) := by decide +kernel
theorem D146_66 : decode prog_12_method_20_code 66 = .ok (.invokevirtual 214, 3) := by decide +kernel
theorem D146_69 : decode prog_12_method_20_code 69 = .ok (.aload_n 0, 1) := by decide +kernel
theorem D146_70 : decode prog_12_method_20_code 70 = .ok (.getfield 205, 3) := by decide +kernel
theorem D146_73 : decode prog_12_method_20_code 73 = .ok (.ifCond .eq 7, 3) := by decide +kernel
theorem D146_76 : decode prog_12_method_20_code 76 = .ok (.iconst 0, 1) := by decide +kernel
theorem D146_77 : decode prog_12_method_20_code 77 = .ok (.goto 4, 3) := by decide +kernel
theorem D146_80 : decode prog_12_method_20_code 80 = .ok (.iload_n 1, 1) := by decide +kernel
theorem D146_81 : decode prog_12_method_20_code 81 = .ok (.ireturn, 1) := by decide +kernel

theorem b146_0 {d : Nat}  {ia : Nat → Nat → Int32} {la : Nat → Nat → Int64} {pl dr : Nat} {cp : Option Nat} {cw : Option Nat} {rp : Option Nat} {K : Option Value → zHP → Prop}  : zWP (d + 1) 146 0 [some (.ref 127), none] [] (ia, la, zRA pl dr cp cw rp) K = (if (ia 127 26) = 0 then (if (ia 127 24) = (1 : Int32) then zWP (d + 1) 146 22 [some (.ref 127), none] [] (ia, la, zRA pl dr cp cw rp) K else zWM d 137 [.ref 127, .int (1 : Int32)] (ia, la, zRA pl dr cp cw rp) (zK (d + 1) 146 22 [some (.ref 127), none] [] K)) else K (some (.int (0 : Int32))) (ia, la, zRA pl dr cp cw rp)) := by
  refine (Q_aload_n zm_146 (Or.inl (by decide)) D146_0 rfl).trans ?_
  refine (Q_getI zm_146 (Or.inl (by decide)) D146_1 zf_10_205 (Or.inl zs_10_26) zk_127.1).trans ?_
  refine (Q_if_eq (tgt := 9) zm_146 (Or.inl (by decide)) D146_4 (by decide)).trans ?_
  refine zif_c (fun h0_ => ?_) (fun h0_ => ?_)
  · refine (Q_aload_n zm_146 (Or.inl (by decide)) D146_9 rfl).trans ?_
    refine (Q_getI zm_146 (Or.inl (by decide)) D146_10 zf_10_170 (Or.inl zs_10_24) zk_127.1).trans ?_
    refine (Q_iconst (v := 1) zm_146 (Or.inl (by decide)) D146_13 (by decide)).trans ?_
    refine (Q_ic_eq (tgt := 22) zm_146 (Or.inl (by decide)) D146_14 (by decide)).trans ?_
    refine zif_c (fun h1_ => ?_) (fun h1_ => ?_)
    · rfl
    · refine (Q_aload_n zm_146 (Or.inl (by decide)) D146_17 rfl).trans ?_
      refine (Q_iconst (v := 1) zm_146 (Or.inl (by decide)) D146_18 (by decide)).trans ?_
      exact Q_callv (as := [.int (1 : Int32)]) (b := 127) (rest := []) zm_146 (Or.inl (by decide)) D146_19 zc_10_214 rfl zk_127.1 (by decide) (by decide +kernel) (by decide) (by simp [zcat, Value.category]) zm_137 rfl
  · refine (Q_iconst (v := 0) zm_146 (Or.inl (by decide)) D146_7 (by decide)).trans ?_
    exact Q_ireturn zm_146 (Or.inl (by decide)) D146_8 rfl

theorem b146_22 {d : Nat}  {ia : Nat → Nat → Int32} {la : Nat → Nat → Int64} {pl dr : Nat} {cp : Option Nat} {cw : Option Nat} {rp : Option Nat} {K : Option Value → zHP → Prop}  : zWP (d + 1) 146 22 [some (.ref 127), none] [] (ia, la, zRA pl dr cp cw rp) K = (if ¬ (ia 127 26) = 0 then zWP (d + 1) 146 51 [some (.ref 127), none] [.int (0 : Int32)] (ia, la, zRA pl dr cp cw rp) K else zWM d 144 [.ref 127, .int (0 : Int32)] (ia, la, zRA pl dr cp cw rp) (zK (d + 1) 146 40 [some (.ref 127), none] [.int (6 : Int32), .ref 130] K)) := by
  refine (Q_aload_n zm_146 (Or.inl (by decide)) D146_22 rfl).trans ?_
  refine (Q_getI zm_146 (Or.inl (by decide)) D146_23 zf_10_205 (Or.inl zs_10_26) zk_127.1).trans ?_
  refine (Q_if_ne (tgt := 50) zm_146 (Or.inl (by decide)) D146_26 (by decide)).trans ?_
  refine zif_c (fun h0_ => ?_) (fun h0_ => ?_)
  · refine (Q_iconst (v := 0) zm_146 (Or.inl (by decide)) D146_50 (by decide)).trans ?_
    rfl
  · refine (Q_aload_n zm_146 (Or.inl (by decide)) D146_29 rfl).trans ?_
    refine (Q_getR (q := 130) zm_146 (Or.inl (by decide)) D146_30 zf_10_16 zs_10_4 zk_127.1 rfl).trans ?_
    refine (Q_bipush (v := 6) zm_146 (Or.inl (by decide)) D146_33 (by decide)).trans ?_
    refine (Q_aload_n zm_146 (Or.inl (by decide)) D146_35 rfl).trans ?_
    refine (Q_iconst (v := 0) zm_146 (Or.inl (by decide)) D146_36 (by decide)).trans ?_
    exact Q_callv (as := [.int (0 : Int32)]) (b := 127) (rest := [.int (6 : Int32), .ref 130]) zm_146 (Or.inl (by decide)) D146_37 zc_10_221 rfl zk_127.1 (by decide) (by decide +kernel) (by decide) (by simp [zcat, Value.category]) zm_144 rfl

theorem b146_51 {d : Nat} {s0 : Int32} {ia : Nat → Nat → Int32} {la : Nat → Nat → Int64} {pl dr : Nat} {cp : Option Nat} {cw : Option Nat} {rp : Option Nat} {K : Option Value → zHP → Prop}  : zWP (d + 1) 146 51 [some (.ref 127), none] [.int s0] (ia, la, zRA pl dr cp cw rp) K = (if ¬ (ia 127 26) = 0 then (if (ia 127 26) = 0 then K (some (.int s0)) (ia, la, zRA pl dr cp cw rp) else K (some (.int (0 : Int32))) (ia, la, zRA pl dr cp cw rp)) else (if ¬ s0 = (-1 : Int32) then (if (ia 127 26) = 0 then K (some (.int s0)) (ia, la, zRA pl dr cp cw rp) else K (some (.int (0 : Int32))) (ia, la, zRA pl dr cp cw rp)) else zWM d 137 [.ref 127, .int (4 : Int32)] (ia, la, zRA pl dr cp cw rp) (zK (d + 1) 146 69 [some (.ref 127), some (.int s0)] [] K))) := by
  refine (Q_istore_n (ls' := [some (.ref 127), some (.int s0)]) zm_146 (Or.inl (by decide)) D146_51 rfl (Nat.le_of_ble_eq_true rfl) rfl).trans ?_
  refine (Q_aload_n zm_146 (Or.inl (by decide)) D146_52 rfl).trans ?_
  refine (Q_getI zm_146 (Or.inl (by decide)) D146_53 zf_10_205 (Or.inl zs_10_26) zk_127.1).trans ?_
  refine (Q_if_ne (tgt := 69) zm_146 (Or.inl (by decide)) D146_56 (by decide)).trans ?_
  refine zif_c (fun h0_ => ?_) (fun h0_ => ?_)
  · refine (Q_aload_n zm_146 (Or.inl (by decide)) D146_69 rfl).trans ?_
    refine (Q_getI zm_146 (Or.inl (by decide)) D146_70 zf_10_205 (Or.inl zs_10_26) zk_127.1).trans ?_
    refine (Q_if_eq (tgt := 80) zm_146 (Or.inl (by decide)) D146_73 (by decide)).trans ?_
    refine zif_c (fun h1_ => ?_) (fun h1_ => ?_)
    · refine (Q_iload_n zm_146 (Or.inl (by decide)) D146_80 rfl).trans ?_
      exact Q_ireturn zm_146 (Or.inl (by decide)) D146_81 rfl
    · refine (Q_iconst (v := 0) zm_146 (Or.inl (by decide)) D146_76 (by decide)).trans ?_
      refine (Q_goto (tgt := 81) zm_146 (Or.inl (by decide)) D146_77 (by decide)).trans ?_
      exact Q_ireturn zm_146 (Or.inl (by decide)) D146_81 rfl
  · refine (Q_iload_n zm_146 (Or.inl (by decide)) D146_59 rfl).trans ?_
    refine (Q_iconst (v := -1) zm_146 (Or.inl (by decide)) D146_60 (by decide)).trans ?_
    refine (Q_ic_ne (tgt := 69) zm_146 (Or.inl (by decide)) D146_61 (by decide)).trans ?_
    refine zif_c (fun h2_ => ?_) (fun h2_ => ?_)
    · refine (Q_aload_n zm_146 (Or.inl (by decide)) D146_69 rfl).trans ?_
      refine (Q_getI zm_146 (Or.inl (by decide)) D146_70 zf_10_205 (Or.inl zs_10_26) zk_127.1).trans ?_
      refine (Q_if_eq (tgt := 80) zm_146 (Or.inl (by decide)) D146_73 (by decide)).trans ?_
      refine zif_c (fun h3_ => ?_) (fun h3_ => ?_)
      · refine (Q_iload_n zm_146 (Or.inl (by decide)) D146_80 rfl).trans ?_
        exact Q_ireturn zm_146 (Or.inl (by decide)) D146_81 rfl
      · refine (Q_iconst (v := 0) zm_146 (Or.inl (by decide)) D146_76 (by decide)).trans ?_
        refine (Q_goto (tgt := 81) zm_146 (Or.inl (by decide)) D146_77 (by decide)).trans ?_
        exact Q_ireturn zm_146 (Or.inl (by decide)) D146_81 rfl
    · refine (Q_aload_n zm_146 (Or.inl (by decide)) D146_64 rfl).trans ?_
      refine (Q_iconst (v := 4) zm_146 (Or.inl (by decide)) D146_65 (by decide)).trans ?_
      exact Q_callv (as := [.int (4 : Int32)]) (b := 127) (rest := []) zm_146 (Or.inl (by decide)) D146_66 zc_10_214 rfl zk_127.1 (by decide) (by decide +kernel) (by decide) (by simp [zcat, Value.category]) zm_137 rfl

theorem b146_40 {d : Nat} {s1 : Int32} {s2 : Int32} {ia : Nat → Nat → Int32} {la : Nat → Nat → Int64} {pl dr : Nat} {cp : Option Nat} {cw : Option Nat} {rp : Option Nat} {K : Option Value → zHP → Prop}  : zWP (d + 1) 146 40 [some (.ref 127), none] [.int s2, .int s1, .ref 130] (ia, la, zRA pl dr cp cw rp) K = zWM d 142 [.ref 130, .int s1, .int s2, .int (ia 127 25)] (ia, la, zRA pl dr cp cw rp) (zK (d + 1) 146 47 [some (.ref 127), none] [] K) := by
  refine (Q_aload_n zm_146 (Or.inl (by decide)) D146_40 rfl).trans ?_
  refine (Q_getI zm_146 (Or.inl (by decide)) D146_41 zf_10_180 (Or.inl zs_10_25) zk_127.1).trans ?_
  exact Q_calls (as := [.ref 130, .int s1, .int s2, .int (ia 127 25)]) (rest := []) zm_146 (Or.inl (by decide)) D146_44 zc_10_217 rfl (by decide) (by simp [zcat, Value.category]) zm_142 rfl

theorem b146_69 {d : Nat} {i1 : Int32} {ia : Nat → Nat → Int32} {la : Nat → Nat → Int64} {pl dr : Nat} {cp : Option Nat} {cw : Option Nat} {rp : Option Nat} {K : Option Value → zHP → Prop}  : zWP d 146 69 [some (.ref 127), some (.int i1)] [] (ia, la, zRA pl dr cp cw rp) K = (if (ia 127 26) = 0 then K (some (.int i1)) (ia, la, zRA pl dr cp cw rp) else K (some (.int (0 : Int32))) (ia, la, zRA pl dr cp cw rp)) := by
  refine (Q_aload_n zm_146 (Or.inl (by decide)) D146_69 rfl).trans ?_
  refine (Q_getI zm_146 (Or.inl (by decide)) D146_70 zf_10_205 (Or.inl zs_10_26) zk_127.1).trans ?_
  refine (Q_if_eq (tgt := 80) zm_146 (Or.inl (by decide)) D146_73 (by decide)).trans ?_
  refine zif_c (fun h0_ => ?_) (fun h0_ => ?_)
  · refine (Q_iload_n zm_146 (Or.inl (by decide)) D146_80 rfl).trans ?_
    exact Q_ireturn zm_146 (Or.inl (by decide)) D146_81 rfl
  · refine (Q_iconst (v := 0) zm_146 (Or.inl (by decide)) D146_76 (by decide)).trans ?_
    refine (Q_goto (tgt := 81) zm_146 (Or.inl (by decide)) D146_77 (by decide)).trans ?_
    exact Q_ireturn zm_146 (Or.inl (by decide)) D146_81 rfl

theorem b146_47 {d : Nat} {s0 : Int32} {ia : Nat → Nat → Int32} {la : Nat → Nat → Int64} {pl dr : Nat} {cp : Option Nat} {cw : Option Nat} {rp : Option Nat} {K : Option Value → zHP → Prop}  : zWP d 146 47 [some (.ref 127), none] [.int s0] (ia, la, zRA pl dr cp cw rp) K = zWP d 146 51 [some (.ref 127), none] [.int s0] (ia, la, zRA pl dr cp cw rp) K := by
  refine (Q_goto (tgt := 51) zm_146 (Or.inl (by decide)) D146_47 (by decide)).trans ?_
  rfl

/-! HandsLetModel.manAhead()I -/
theorem D147_0 : decode prog_12_method_21_code 0 = .ok (.aload_n 0, 1) := by decide +kernel
theorem D147_1 : decode prog_12_method_21_code 1 = .ok (.invokevirtual 225, 3) := by decide +kernel
theorem D147_4 : decode prog_12_method_21_code 4 = .ok (.istore_n 1, 1) := by decide +kernel
theorem D147_5 : decode prog_12_method_21_code 5 = .ok (.aload_n 0, 1) := by decide +kernel
theorem D147_6 : decode prog_12_method_21_code 6 = .ok (.invokevirtual 228, 3) := by decide +kernel
theorem D147_9 : decode prog_12_method_21_code 9 = .ok (.iload_n 1, 1) := by decide +kernel
theorem D147_10 : decode prog_12_method_21_code 10 = .ok (.ireturn, 1) := by decide +kernel

theorem b147_0 {d : Nat}  {ia : Nat → Nat → Int32} {la : Nat → Nat → Int64} {pl dr : Nat} {cp : Option Nat} {cw : Option Nat} {rp : Option Nat} {K : Option Value → zHP → Prop}  : zWP (d + 1) 147 0 [some (.ref 127), none] [] (ia, la, zRA pl dr cp cw rp) K = zWM d 146 [.ref 127] (ia, la, zRA pl dr cp cw rp) (zK (d + 1) 147 4 [some (.ref 127), none] [] K) := by
  refine (Q_aload_n zm_147 (Or.inl (by decide)) D147_0 rfl).trans ?_
  exact Q_callv (as := []) (b := 127) (rest := []) zm_147 (Or.inl (by decide)) D147_1 zc_10_225 rfl zk_127.1 (by decide) (by decide +kernel) (by decide) (by simp [zcat, Value.category]) zm_146 rfl

theorem b147_4 {d : Nat} {s0 : Int32} {ia : Nat → Nat → Int32} {la : Nat → Nat → Int64} {pl dr : Nat} {cp : Option Nat} {cw : Option Nat} {rp : Option Nat} {K : Option Value → zHP → Prop}  : zWP (d + 1) 147 4 [some (.ref 127), none] [.int s0] (ia, la, zRA pl dr cp cw rp) K = zWM d 140 [.ref 127] (ia, la, zRA pl dr cp cw rp) (zK (d + 1) 147 9 [some (.ref 127), some (.int s0)] [] K) := by
  refine (Q_istore_n (ls' := [some (.ref 127), some (.int s0)]) zm_147 (Or.inl (by decide)) D147_4 rfl (Nat.le_of_ble_eq_true rfl) rfl).trans ?_
  refine (Q_aload_n zm_147 (Or.inl (by decide)) D147_5 rfl).trans ?_
  exact Q_callv (as := []) (b := 127) (rest := []) zm_147 (Or.inl (by decide)) D147_6 zc_10_228 rfl zk_127.1 (by decide) (by decide +kernel) (by decide) (by simp [zcat, Value.category]) zm_140 rfl

theorem b147_9 {d : Nat} {i1 : Int32} {ia : Nat → Nat → Int32} {la : Nat → Nat → Int64} {pl dr : Nat} {cp : Option Nat} {cw : Option Nat} {rp : Option Nat} {K : Option Value → zHP → Prop}  : zWP d 147 9 [some (.ref 127), some (.int i1)] [] (ia, la, zRA pl dr cp cw rp) K = K (some (.int i1)) (ia, la, zRA pl dr cp cw rp) := by
  refine (Q_iload_n zm_147 (Or.inl (by decide)) D147_9 rfl).trans ?_
  exact Q_ireturn zm_147 (Or.inl (by decide)) D147_10 rfl

/-! HandsLetModel.isFull(I)Z -/
theorem D148_0 : decode prog_12_method_22_code 0 = .ok (.iload_n 1, 1) := by decide +kernel
theorem D148_1 : decode prog_12_method_22_code 1 = .ok (.ifCond .ne 13, 3) := by decide +kernel
theorem D148_4 : decode prog_12_method_22_code 4 = .ok (.aload_n 0, 1) := by decide +kernel
theorem D148_5 : decode prog_12_method_22_code 5 = .ok (.iconst 0, 1) := by decide +kernel
theorem D148_6 : decode prog_12_method_22_code 6 = .ok (.invokevirtual 221, 3) := by decide +kernel
theorem D148_9 : decode prog_12_method_22_code 9 = .ok (.bipush 6, 2) := by decide +kernel
theorem D148_11 : decode prog_12_method_22_code 11 = .ok (.if_icmp .eq 33, 3) := by decide +kernel
theorem D148_14 : decode prog_12_method_22_code 14 = .ok (.iload_n 1, 1) := by decide +kernel
theorem D148_15 : decode prog_12_method_22_code 15 = .ok (.iconst 1, 1) := by decide +kernel
theorem D148_16 : decode prog_12_method_22_code 16 = .ok (.if_icmp .ne 13, 3) := by decide +kernel
theorem D148_19 : decode prog_12_method_22_code 19 = .ok (.aload_n 0, 1) := by decide +kernel
theorem D148_20 : decode prog_12_method_22_code 20 = .ok (.iconst 1, 1) := by decide +kernel
theorem D148_21 : decode prog_12_method_22_code 21 = .ok (.invokevirtual 221, 3) := by decide +kernel
theorem D148_24 : decode prog_12_method_22_code 24 = .ok (.bipush 10, 2) := by decide +kernel
theorem D148_26 : decode prog_12_method_22_code 26 = .ok (.if_icmp .eq 18, 3) := by decide +kernel
theorem D148_29 : decode prog_12_method_22_code 29 = .ok (.iload_n 1, 1) := by decide +kernel
theorem D148_30 : decode prog_12_method_22_code 30 = .ok (.iconst 2, 1) := by decide +kernel
theorem D148_31 : decode prog_12_method_22_code 31 = .ok (.if_icmp .ne 17, 3) := by decide +kernel
theorem D148_34 : decode prog_12_method_22_code 34 = .ok (.aload_n 0, 1) := by decide +kernel
theorem D148_35 : decode prog_12_method_22_code 35 = .ok (.iconst 2, 1) := by decide +kernel
theorem D148_36 : decode prog_12_method_22_code 36 = .ok (.invokevirtual 221, 3) := by decide +kernel
theorem D148_39 : decode prog_12_method_22_code 39 = .ok (.bipush 12, 2) := by decide +kernel
theorem D148_41 : decode prog_12_method_22_code 41 = .ok (.if_icmp .ne 7, 3) := by decide +kernel
theorem D148_44 : decode prog_12_method_22_code 44 = .ok (.iconst 1, 1) := by decide +kernel
theorem D148_45 : decode prog_12_method_22_code 45 = .ok (.goto 4, 3) := by decide +kernel
theorem D148_48 : decode prog_12_method_22_code 48 = .ok (.iconst 0, 1) := by decide +kernel
theorem D148_49 : decode prog_12_method_22_code 49 = .ok (.ireturn, 1) := by decide +kernel

theorem b148_0 {d : Nat} {i1 : Int32} {ia : Nat → Nat → Int32} {la : Nat → Nat → Int64} {pl dr : Nat} {cp : Option Nat} {cw : Option Nat} {rp : Option Nat} {K : Option Value → zHP → Prop}  : zWP (d + 1) 148 0 [some (.ref 127), some (.int i1)] [] (ia, la, zRA pl dr cp cw rp) K = (if ¬ i1 = 0 then zWP (d + 1) 148 14 [some (.ref 127), some (.int i1)] [] (ia, la, zRA pl dr cp cw rp) K else zWM d 144 [.ref 127, .int (0 : Int32)] (ia, la, zRA pl dr cp cw rp) (zK (d + 1) 148 9 [some (.ref 127), some (.int i1)] [] K)) := by
  refine (Q_iload_n zm_148 (Or.inl (by decide)) D148_0 rfl).trans ?_
  refine (Q_if_ne (tgt := 14) zm_148 (Or.inl (by decide)) D148_1 (by decide)).trans ?_
  refine zif_c (fun h0_ => ?_) (fun h0_ => ?_)
  · rfl
  · refine (Q_aload_n zm_148 (Or.inl (by decide)) D148_4 rfl).trans ?_
    refine (Q_iconst (v := 0) zm_148 (Or.inl (by decide)) D148_5 (by decide)).trans ?_
    exact Q_callv (as := [.int (0 : Int32)]) (b := 127) (rest := []) zm_148 (Or.inl (by decide)) D148_6 zc_10_221 rfl zk_127.1 (by decide) (by decide +kernel) (by decide) (by simp [zcat, Value.category]) zm_144 rfl

theorem b148_14 {d : Nat} {i1 : Int32} {ia : Nat → Nat → Int32} {la : Nat → Nat → Int64} {pl dr : Nat} {cp : Option Nat} {cw : Option Nat} {rp : Option Nat} {K : Option Value → zHP → Prop}  : zWP (d + 1) 148 14 [some (.ref 127), some (.int i1)] [] (ia, la, zRA pl dr cp cw rp) K = (if ¬ i1 = (1 : Int32) then (if ¬ i1 = (2 : Int32) then K (some (.int (0 : Int32))) (ia, la, zRA pl dr cp cw rp) else zWM d 144 [.ref 127, .int (2 : Int32)] (ia, la, zRA pl dr cp cw rp) (zK (d + 1) 148 39 [some (.ref 127), some (.int i1)] [] K)) else zWM d 144 [.ref 127, .int (1 : Int32)] (ia, la, zRA pl dr cp cw rp) (zK (d + 1) 148 24 [some (.ref 127), some (.int i1)] [] K)) := by
  refine (Q_iload_n zm_148 (Or.inl (by decide)) D148_14 rfl).trans ?_
  refine (Q_iconst (v := 1) zm_148 (Or.inl (by decide)) D148_15 (by decide)).trans ?_
  refine (Q_ic_ne (tgt := 29) zm_148 (Or.inl (by decide)) D148_16 (by decide)).trans ?_
  refine zif_c (fun h0_ => ?_) (fun h0_ => ?_)
  · refine (Q_iload_n zm_148 (Or.inl (by decide)) D148_29 rfl).trans ?_
    refine (Q_iconst (v := 2) zm_148 (Or.inl (by decide)) D148_30 (by decide)).trans ?_
    refine (Q_ic_ne (tgt := 48) zm_148 (Or.inl (by decide)) D148_31 (by decide)).trans ?_
    refine zif_c (fun h1_ => ?_) (fun h1_ => ?_)
    · refine (Q_iconst (v := 0) zm_148 (Or.inl (by decide)) D148_48 (by decide)).trans ?_
      exact Q_zreturn zm_148 (Or.inl (by decide)) D148_49 rfl (by decide)
    · refine (Q_aload_n zm_148 (Or.inl (by decide)) D148_34 rfl).trans ?_
      refine (Q_iconst (v := 2) zm_148 (Or.inl (by decide)) D148_35 (by decide)).trans ?_
      exact Q_callv (as := [.int (2 : Int32)]) (b := 127) (rest := []) zm_148 (Or.inl (by decide)) D148_36 zc_10_221 rfl zk_127.1 (by decide) (by decide +kernel) (by decide) (by simp [zcat, Value.category]) zm_144 rfl
  · refine (Q_aload_n zm_148 (Or.inl (by decide)) D148_19 rfl).trans ?_
    refine (Q_iconst (v := 1) zm_148 (Or.inl (by decide)) D148_20 (by decide)).trans ?_
    exact Q_callv (as := [.int (1 : Int32)]) (b := 127) (rest := []) zm_148 (Or.inl (by decide)) D148_21 zc_10_221 rfl zk_127.1 (by decide) (by decide +kernel) (by decide) (by simp [zcat, Value.category]) zm_144 rfl

theorem b148_9 {d : Nat} {i1 : Int32} {s0 : Int32} {ia : Nat → Nat → Int32} {la : Nat → Nat → Int64} {pl dr : Nat} {cp : Option Nat} {cw : Option Nat} {rp : Option Nat} {K : Option Value → zHP → Prop}  : zWP d 148 9 [some (.ref 127), some (.int i1)] [.int s0] (ia, la, zRA pl dr cp cw rp) K = (if s0 = (6 : Int32) then K (some (.int (1 : Int32))) (ia, la, zRA pl dr cp cw rp) else zWP d 148 14 [some (.ref 127), some (.int i1)] [] (ia, la, zRA pl dr cp cw rp) K) := by
  refine (Q_bipush (v := 6) zm_148 (Or.inl (by decide)) D148_9 (by decide)).trans ?_
  refine (Q_ic_eq (tgt := 44) zm_148 (Or.inl (by decide)) D148_11 (by decide)).trans ?_
  refine zif_c (fun h0_ => ?_) (fun h0_ => ?_)
  · refine (Q_iconst (v := 1) zm_148 (Or.inl (by decide)) D148_44 (by decide)).trans ?_
    refine (Q_goto (tgt := 49) zm_148 (Or.inl (by decide)) D148_45 (by decide)).trans ?_
    exact Q_zreturn zm_148 (Or.inl (by decide)) D148_49 rfl (by decide)
  · rfl

theorem b148_39 {d : Nat} {i1 : Int32} {s0 : Int32} {ia : Nat → Nat → Int32} {la : Nat → Nat → Int64} {pl dr : Nat} {cp : Option Nat} {cw : Option Nat} {rp : Option Nat} {K : Option Value → zHP → Prop}  : zWP d 148 39 [some (.ref 127), some (.int i1)] [.int s0] (ia, la, zRA pl dr cp cw rp) K = (if ¬ s0 = (12 : Int32) then K (some (.int (0 : Int32))) (ia, la, zRA pl dr cp cw rp) else K (some (.int (1 : Int32))) (ia, la, zRA pl dr cp cw rp)) := by
  refine (Q_bipush (v := 12) zm_148 (Or.inl (by decide)) D148_39 (by decide)).trans ?_
  refine (Q_ic_ne (tgt := 48) zm_148 (Or.inl (by decide)) D148_41 (by decide)).trans ?_
  refine zif_c (fun h0_ => ?_) (fun h0_ => ?_)
  · refine (Q_iconst (v := 0) zm_148 (Or.inl (by decide)) D148_48 (by decide)).trans ?_
    exact Q_zreturn zm_148 (Or.inl (by decide)) D148_49 rfl (by decide)
  · refine (Q_iconst (v := 1) zm_148 (Or.inl (by decide)) D148_44 (by decide)).trans ?_
    refine (Q_goto (tgt := 49) zm_148 (Or.inl (by decide)) D148_45 (by decide)).trans ?_
    exact Q_zreturn zm_148 (Or.inl (by decide)) D148_49 rfl (by decide)

theorem b148_24 {d : Nat} {i1 : Int32} {s0 : Int32} {ia : Nat → Nat → Int32} {la : Nat → Nat → Int64} {pl dr : Nat} {cp : Option Nat} {cw : Option Nat} {rp : Option Nat} {K : Option Value → zHP → Prop}  : zWP (d + 1) 148 24 [some (.ref 127), some (.int i1)] [.int s0] (ia, la, zRA pl dr cp cw rp) K = (if s0 = (10 : Int32) then K (some (.int (1 : Int32))) (ia, la, zRA pl dr cp cw rp) else (if ¬ i1 = (2 : Int32) then K (some (.int (0 : Int32))) (ia, la, zRA pl dr cp cw rp) else zWM d 144 [.ref 127, .int (2 : Int32)] (ia, la, zRA pl dr cp cw rp) (zK (d + 1) 148 39 [some (.ref 127), some (.int i1)] [] K))) := by
  refine (Q_bipush (v := 10) zm_148 (Or.inl (by decide)) D148_24 (by decide)).trans ?_
  refine (Q_ic_eq (tgt := 44) zm_148 (Or.inl (by decide)) D148_26 (by decide)).trans ?_
  refine zif_c (fun h0_ => ?_) (fun h0_ => ?_)
  · refine (Q_iconst (v := 1) zm_148 (Or.inl (by decide)) D148_44 (by decide)).trans ?_
    refine (Q_goto (tgt := 49) zm_148 (Or.inl (by decide)) D148_45 (by decide)).trans ?_
    exact Q_zreturn zm_148 (Or.inl (by decide)) D148_49 rfl (by decide)
  · refine (Q_iload_n zm_148 (Or.inl (by decide)) D148_29 rfl).trans ?_
    refine (Q_iconst (v := 2) zm_148 (Or.inl (by decide)) D148_30 (by decide)).trans ?_
    refine (Q_ic_ne (tgt := 48) zm_148 (Or.inl (by decide)) D148_31 (by decide)).trans ?_
    refine zif_c (fun h1_ => ?_) (fun h1_ => ?_)
    · refine (Q_iconst (v := 0) zm_148 (Or.inl (by decide)) D148_48 (by decide)).trans ?_
      exact Q_zreturn zm_148 (Or.inl (by decide)) D148_49 rfl (by decide)
    · refine (Q_aload_n zm_148 (Or.inl (by decide)) D148_34 rfl).trans ?_
      refine (Q_iconst (v := 2) zm_148 (Or.inl (by decide)) D148_35 (by decide)).trans ?_
      exact Q_callv (as := [.int (2 : Int32)]) (b := 127) (rest := []) zm_148 (Or.inl (by decide)) D148_36 zc_10_221 rfl zk_127.1 (by decide) (by decide +kernel) (by decide) (by simp [zcat, Value.category]) zm_144 rfl

/-! HandsLetModel.line()V -/
theorem D149_0 : decode prog_12_method_23_code 0 = .ok (.aload_n 0, 1) := by decide +kernel
theorem D149_1 : decode prog_12_method_23_code 1 = .ok (.getfield 170, 3) := by decide +kernel
theorem D149_4 : decode prog_12_method_23_code 4 = .ok (.ifCond .ne 12, 3) := by decide +kernel
theorem D149_7 : decode prog_12_method_23_code 7 = .ok (.aload_n 0, 1) := by decide +kernel
theorem D149_8 : decode prog_12_method_23_code 8 = .ok (.getfield 180, 3) := by decide +kernel
theorem D149_11 : decode prog_12_method_23_code 11 = .ok (.bipush 6, 2) := by decide +kernel
theorem D149_13 : decode prog_12_method_23_code 13 = .ok (.if_icmp .le 9, 3) := by decide +kernel
theorem D149_16 : decode prog_12_method_23_code 16 = .ok (.aload_n 0, 1) := by decide +kernel
theorem D149_17 : decode prog_12_method_23_code 17 = .ok (.iconst 1, 1) := by decide +kernel
theorem D149_18 : decode prog_12_method_23_code 18 = .ok (.invokevirtual 214, 3) := by decide +kernel
theorem D149_21 : decode prog_12_method_23_code 21 = .ok (.return_, 1) := by decide +kernel
theorem D149_22 : decode prog_12_method_23_code 22 = .ok (.aload_n 0, 1) := by decide +kernel
theorem D149_23 : decode prog_12_method_23_code 23 = .ok (.getfield 180, 3) := by decide +kernel
theorem D149_26 : decode prog_12_method_23_code 26 = .ok (.istore_n 1, 1) := by decide +kernel
theorem D149_27 : decode prog_12_method_23_code 27 = .ok (.aload_n 0, 1) := by decide +kernel
theorem D149_28 : decode prog_12_method_23_code 28 = .ok (.iload_n 1, 1) := by decide +kernel
theorem D149_29 : decode prog_12_method_23_code 29 = .ok (.invokevirtual 231, 3) := by decide +kernel
theorem D149_32 : decode prog_12_method_23_code 32 = .ok (.ifCond .eq 11, 3) := by decide +kernel
theorem D149_35 : decode prog_12_method_23_code 35 = .ok (.aload_n 0, 1) := by decide +kernel
theorem D149_36 : decode prog_12_method_23_code 36 = .ok (.iconst 2, 1) := by decide +kernel
theorem D149_37 : decode prog_12_method_23_code 37 = .ok (.invokevirtual 214, 3) := by decide +kernel
theorem D149_40 : decode prog_12_method_23_code 40 = .ok (.goto 30, 3) := by decide +kernel
theorem D149_43 : decode prog_12_method_23_code 43 = .ok (.iload_n 1, 1) := by decide +kernel
theorem D149_44 : decode prog_12_method_23_code 44 = .ok (.iconst 3, 1) := by decide +kernel
theorem D149_45 : decode prog_12_method_23_code 45 = .ok (.if_icmp .lt 25, 3) := by decide +kernel
theorem D149_48 : decode prog_12_method_23_code 48 = .ok (.iload_n 1, 1) := by decide +kernel
theorem D149_49 : decode prog_12_method_23_code 49 = .ok (.iconst 5, 1) := by decide +kernel
theorem D149_50 : decode prog_12_method_23_code 50 = .ok (.if_icmp .gt 20, 3) := by decide +kernel
theorem D149_53 : decode prog_12_method_23_code 53 = .ok (.aload_n 0, 1) := by decide +kernel
theorem D149_54 : decode prog_12_method_23_code 54 = .ok (.getfield 234, 3) := by decide +kernel
theorem D149_57 : decode prog_12_method_23_code 57 = .ok (.iload_n 1, 1) := by decide +kernel
theorem D149_58 : decode prog_12_method_23_code 58 = .ok (.ishr, 1) := by decide +kernel
theorem D149_59 : decode prog_12_method_23_code 59 = .ok (.iconst 1, 1) := by decide +kernel
theorem D149_60 : decode prog_12_method_23_code 60 = .ok (.iand, 1) := by decide +kernel
theorem D149_61 : decode prog_12_method_23_code 61 = .ok (.iconst 1, 1) := by decide +kernel
theorem D149_62 : decode prog_12_method_23_code 62 = .ok (.if_icmp .ne 8, 3) := by decide +kernel
theorem D149_65 : decode prog_12_method_23_code 65 = .ok (.aload_n 0, 1) := by decide +kernel
theorem D149_66 : decode prog_12_method_23_code 66 = .ok (.iconst 3, 1) := by decide +kernel
theorem D149_67 : decode prog_12_method_23_code 67 = .ok (.invokevirtual 214, 3) := by decide +kernel
theorem D149_70 : decode prog_12_method_23_code 70 = .ok (.aload_n 0, 1) := by decide +kernel
theorem D149_71 : decode prog_12_method_23_code 71 = .ok (.getfield 205, 3) := by decide +kernel
theorem D149_74 : decode prog_12_method_23_code 74 = .ok (.ifCond .eq 4, 3) := by decide +kernel
theorem D149_77 : decode prog_12_method_23_code 77 = .ok (.return_, 1) := by decide +kernel
theorem D149_78 : decode prog_12_method_23_code 78 = .ok (.aload_n 0, 1) := by decide +kernel
theorem D149_79 : decode prog_12_method_23_code 79 = .ok (.dup, 1) := by decide +kernel
theorem D149_80 : decode prog_12_method_23_code 80 = .ok (.getfield 234, 3) := by decide +kernel
theorem D149_83 : decode prog_12_method_23_code 83 = .ok (.iconst 1, 1) := by decide +kernel
theorem D149_84 : decode prog_12_method_23_code 84 = .ok (.iload_n 1, 1) := by decide +kernel
theorem D149_85 : decode prog_12_method_23_code 85 = .ok (.ishl, 1) := by decide +kernel
theorem D149_86 : decode prog_12_method_23_code 86 = .ok (.ior, 1) := by decide +kernel
theorem D149_87 : decode prog_12_method_23_code 87 = .ok (.putfield 234, 3) := by decide +kernel
theorem D149_90 : decode prog_12_method_23_code 90 = .ok (.aload_n 0, 1) := by decide +kernel
theorem D149_91 : decode prog_12_method_23_code 91 = .ok (.invokevirtual 211, 3) := by decide +kernel
theorem D149_94 : decode prog_12_method_23_code 94 = .ok (.iload_n 1, 1) := by decide +kernel
theorem D149_95 : decode prog_12_method_23_code 95 = .ok (.tableswitch 235 0 5 #[37, 126, 133, 190, 205, 220], 37) := by decide +kernel
theorem D149_132 : decode prog_12_method_23_code 132 = .ok (.bipush 6, 2) := by decide +kernel
theorem D149_134 : decode prog_12_method_23_code 134 = .ok (.aload_n 0, 1) := by decide +kernel
theorem D149_135 : decode prog_12_method_23_code 135 = .ok (.iconst 0, 1) := by decide +kernel
theorem D149_136 : decode prog_12_method_23_code 136 = .ok (.invokevirtual 221, 3) := by decide +kernel
theorem D149_139 : decode prog_12_method_23_code 139 = .ok (.iadd, 1) := by decide +kernel
theorem D149_140 : decode prog_12_method_23_code 140 = .ok (.istore_n 2, 1) := by decide +kernel
theorem D149_141 : decode prog_12_method_23_code 141 = .ok (.aload_n 0, 1) := by decide +kernel
theorem D149_142 : decode prog_12_method_23_code 142 = .ok (.getfield 16, 3) := by decide +kernel
theorem D149_145 : decode prog_12_method_23_code 145 = .ok (.iload_n 2, 1) := by decide +kernel
theorem D149_146 : decode prog_12_method_23_code 146 = .ok (.aload_n 0, 1) := by decide +kernel
theorem D149_147 : decode prog_12_method_23_code 147 = .ok (.aload_n 0, 1) := by decide +kernel
theorem D149_148 : decode prog_12_method_23_code 148 = .ok (.getfield 16, 3) := by decide +kernel
theorem D149_151 : decode prog_12_method_23_code 151 = .ok (.bipush 6, 2) := by decide +kernel
theorem D149_153 : decode prog_12_method_23_code 153 = .ok (.aload_n 0, 1) := by decide +kernel
theorem D149_154 : decode prog_12_method_23_code 154 = .ok (.iconst 0, 1) := by decide +kernel
theorem D149_155 : decode prog_12_method_23_code 155 = .ok (.invokevirtual 221, 3) := by decide +kernel
theorem D149_158 : decode prog_12_method_23_code 158 = .ok (.invokevirtual 237, 3) := by decide +kernel
theorem D149_161 : decode prog_12_method_23_code 161 = .ok (.iastore, 1) := by decide +kernel
theorem D149_162 : decode prog_12_method_23_code 162 = .ok (.iconst 0, 1) := by decide +kernel
theorem D149_163 : decode prog_12_method_23_code 163 = .ok (.istore_n 3, 1) := by decide +kernel
theorem D149_164 : decode prog_12_method_23_code 164 = .ok (.iload_n 3, 1) := by decide +kernel
theorem D149_165 : decode prog_12_method_23_code 165 = .ok (.iconst 3, 1) := by decide +kernel
theorem D149_166 : decode prog_12_method_23_code 166 = .ok (.if_icmp .ge 26, 3) := by decide +kernel
theorem D149_169 : decode prog_12_method_23_code 169 = .ok (.aload_n 0, 1) := by decide +kernel
theorem D149_170 : decode prog_12_method_23_code 170 = .ok (.getfield 19, 3) := by decide +kernel
theorem D149_173 : decode prog_12_method_23_code 173 = .ok (.iconst 3, 1) := by decide +kernel
theorem D149_174 : decode prog_12_method_23_code 174 = .ok (.iload_n 2, 1) := by decide +kernel
theorem D149_175 : decode prog_12_method_23_code 175 = .ok (.imul, 1) := by decide +kernel
theorem D149_176 : decode prog_12_method_23_code 176 = .ok (.iload_n 3, 1) := by decide +kernel
theorem D149_177 : decode prog_12_method_23_code 177 = .ok (.iadd, 1) := by decide +kernel
theorem D149_178 : decode prog_12_method_23_code 178 = .ok (.aload_n 0, 1) := by decide +kernel
theorem D149_179 : decode prog_12_method_23_code 179 = .ok (.iconst 0, 1) := by decide +kernel
theorem D149_180 : decode prog_12_method_23_code 180 = .ok (.bipush 99, 2) := by decide +kernel
theorem D149_182 : decode prog_12_method_23_code 182 = .ok (.invokevirtual 241, 3) := by decide +kernel
theorem D149_185 : decode prog_12_method_23_code 185 = .ok (.iastore, 1) := by decide +kernel
theorem D149_186 : decode prog_12_method_23_code 186 = .ok (.iinc 3 1, 3) := by decide +kernel
theorem D149_189 : decode prog_12_method_23_code 189 = .ok (.goto (-25), 3) := by decide +kernel
theorem D149_192 : decode prog_12_method_23_code 192 = .ok (.aload_n 0, 1) := by decide +kernel
theorem D149_193 : decode prog_12_method_23_code 193 = .ok (.getfield 22, 3) := by decide +kernel
theorem D149_196 : decode prog_12_method_23_code 196 = .ok (.iload_n 2, 1) := by decide +kernel
theorem D149_197 : decode prog_12_method_23_code 197 = .ok (.aload_n 0, 1) := by decide +kernel
theorem D149_198 : decode prog_12_method_23_code 198 = .ok (.iconst 0, 1) := by decide +kernel
theorem D149_199 : decode prog_12_method_23_code 199 = .ok (.sipush 999, 3) := by decide +kernel
theorem D149_202 : decode prog_12_method_23_code 202 = .ok (.invokevirtual 241, 3) := by decide +kernel
theorem D149_205 : decode prog_12_method_23_code 205 = .ok (.iastore, 1) := by decide +kernel
theorem D149_206 : decode prog_12_method_23_code 206 = .ok (.aload_n 0, 1) := by decide +kernel
theorem D149_207 : decode prog_12_method_23_code 207 = .ok (.iconst 0, 1) := by decide +kernel
theorem D149_208 : decode prog_12_method_23_code 208 = .ok (.aload_n 0, 1) := by decide +kernel
theorem D149_209 : decode prog_12_method_23_code 209 = .ok (.iconst 0, 1) := by decide +kernel
theorem D149_210 : decode prog_12_method_23_code 210 = .ok (.invokevirtual 221, 3) := by decide +kernel
theorem D149_213 : decode prog_12_method_23_code 213 = .ok (.iconst 1, 1) := by decide +kernel
theorem D149_214 : decode prog_12_method_23_code 214 = .ok (.iadd, 1) := by decide +kernel
theorem D149_215 : decode prog_12_method_23_code 215 = .ok (.invokevirtual 245, 3) := by decide +kernel
theorem D149_218 : decode prog_12_method_23_code 218 = .ok (.goto 116, 3) := by decide +kernel
theorem D149_221 : decode prog_12_method_23_code 221 = .ok (.aload_n 0, 1) := by decide +kernel
theorem D149_222 : decode prog_12_method_23_code 222 = .ok (.invokevirtual 249, 3) := by decide +kernel
theorem D149_225 : decode prog_12_method_23_code 225 = .ok (.goto 109, 3) := by decide +kernel
theorem D149_228 : decode prog_12_method_23_code 228 = .ok (.bipush 12, 2) := by decide +kernel
theorem D149_230 : decode prog_12_method_23_code 230 = .ok (.aload_n 0, 1) := by decide +kernel
theorem D149_231 : decode prog_12_method_23_code 231 = .ok (.iconst 2, 1) := by decide +kernel
theorem D149_232 : decode prog_12_method_23_code 232 = .ok (.invokevirtual 221, 3) := by decide +kernel
theorem D149_235 : decode prog_12_method_23_code 235 = .ok (.iadd, 1) := by decide +kernel
theorem D149_236 : decode prog_12_method_23_code 236 = .ok (.istore_n 3, 1) := by decide +kernel
theorem D149_237 : decode prog_12_method_23_code 237 = .ok (.aload_n 0, 1) := by decide +kernel
theorem D149_238 : decode prog_12_method_23_code 238 = .ok (.getfield 40, 3) := by decide +kernel
theorem D149_241 : decode prog_12_method_23_code 241 = .ok (.iload_n 3, 1) := by decide +kernel
theorem D149_242 : decode prog_12_method_23_code 242 = .ok (.aload_n 0, 1) := by decide +kernel
theorem D149_243 : decode prog_12_method_23_code 243 = .ok (.invokevirtual 252, 3) := by decide +kernel
theorem D149_246 : decode prog_12_method_23_code 246 = .ok (.iastore, 1) := by decide +kernel
theorem D149_247 : decode prog_12_method_23_code 247 = .ok (.aload_n 0, 1) := by decide +kernel
theorem D149_248 : decode prog_12_method_23_code 248 = .ok (.getfield 43, 3) := by decide +kernel
theorem D149_251 : decode prog_12_method_23_code 251 = .ok (.iload_n 3, 1) := by decide +kernel
theorem D149_252 : decode prog_12_method_23_code 252 = .ok (.aload_n 0, 1) := by decide +kernel
theorem D149_253 : decode prog_12_method_23_code 253 = .ok (.invokevirtual 252, 3) := by decide +kernel
theorem D149_256 : decode prog_12_method_23_code 256 = .ok (.iastore, 1) := by decide +kernel
theorem D149_257 : decode prog_12_method_23_code 257 = .ok (.aload_n 0, 1) := by decide +kernel
theorem D149_258 : decode prog_12_method_23_code 258 = .ok (.getfield 46, 3) := by decide +kernel
theorem D149_261 : decode prog_12_method_23_code 261 = .ok (.iload_n 3, 1) := by decide +kernel
theorem D149_262 : decode prog_12_method_23_code 262 = .ok (.aload_n 0, 1) := by decide +kernel
theorem D149_263 : decode prog_12_method_23_code 263 = .ok (.iconst 0, 1) := by decide +kernel
theorem D149_264 : decode prog_12_method_23_code 264 = .ok (.bipush 99, 2) := by decide +kernel
theorem D149_266 : decode prog_12_method_23_code 266 = .ok (.invokevirtual 241, 3) := by decide +kernel
theorem D149_269 : decode prog_12_method_23_code 269 = .ok (.iastore, 1) := by decide +kernel
theorem D149_270 : decode prog_12_method_23_code 270 = .ok (.aload_n 0, 1) := by decide +kernel
theorem D149_271 : decode prog_12_method_23_code 271 = .ok (.iconst 2, 1) := by decide +kernel
theorem D149_272 : decode prog_12_method_23_code 272 = .ok (.aload_n 0, 1) := by decide +kernel
theorem D149_273 : decode prog_12_method_23_code 273 = .ok (.iconst 2, 1) := by decide +kernel
theorem D149_274 : decode prog_12_method_23_code 274 = .ok (.invokevirtual 221, 3) := by decide +kernel
theorem D149_277 : decode prog_12_method_23_code 277 = .ok (.iconst 1, 1) := by decide +kernel
theorem D149_278 : decode prog_12_method_23_code 278 = .ok (.iadd, 1) := by decide +kernel
theorem D149_279 : decode prog_12_method_23_code 279 = .ok (.invokevirtual 245, 3) := by decide +kernel
theorem D149_282 : decode prog_12_method_23_code 282 = .ok (.goto 52, 3) := by decide +kernel
theorem D149_285 : decode prog_12_method_23_code 285 = .ok (.aload_n 0, 1) := by decide +kernel
theorem D149_286 : decode prog_12_method_23_code 286 = .ok (.iconst 3, 1) := by decide +kernel
theorem D149_287 : decode prog_12_method_23_code 287 = .ok (.aload_n 0, 1) := by decide +kernel
theorem D149_288 : decode prog_12_method_23_code 288 = .ok (.iconst 0, 1) := by decide +kernel
theorem D149_289 : decode prog_12_method_23_code 289 = .ok (.bipush 100, 2) := by decide +kernel
theorem D149_291 : decode prog_12_method_23_code 291 = .ok (.invokevirtual 241, 3) := by decide +kernel
theorem D149_294 : decode prog_12_method_23_code 294 = .ok (.invokevirtual 245, 3) := by decide +kernel
theorem D149_297 : decode prog_12_method_23_code 297 = .ok (.goto 37, 3) := by decide +kernel
theorem D149_300 : decode prog_12_method_23_code 300 = .ok (.aload_n 0, 1) := by decide +kernel
theorem D149_301 : decode prog_12_method_23_code 301 = .ok (.iconst 4, 1) := by decide +kernel
theorem D149_302 : decode prog_12_method_23_code 302 = .ok (.aload_n 0, 1) := by decide +kernel
theorem D149_303 : decode prog_12_method_23_code 303 = .ok (.iconst 0, 1) := by decide +kernel
theorem D149_304 : decode prog_12_method_23_code 304 = .ok (.bipush 100, 2) := by decide +kernel
theorem D149_306 : decode prog_12_method_23_code 306 = .ok (.invokevirtual 241, 3) := by decide +kernel
theorem D149_309 : decode prog_12_method_23_code 309 = .ok (.invokevirtual 245, 3) := by decide +kernel
theorem D149_312 : decode prog_12_method_23_code 312 = .ok (.goto 22, 3) := by decide +kernel
theorem D149_315 : decode prog_12_method_23_code 315 = .ok (.aload_n 0, 1) := by decide +kernel
theorem D149_316 : decode prog_12_method_23_code 316 = .ok (.iconst 5, 1) := by decide +kernel
theorem D149_317 : decode prog_12_method_23_code 317 = .ok (.aload_n 0, 1) := by decide +kernel
theorem D149_318 : decode prog_12_method_23_code 318 = .ok (.iconst 0, 1) := by decide +kernel
theorem D149_319 : decode prog_12_method_23_code 319 = .ok (.ldc 189, 2) := by decide +kernel
theorem D149_321 : decode prog_12_method_23_code 321 = .ok (.invokevirtual 241, 3) := by decide +kernel
theorem D149_324 : decode prog_12_method_23_code 324 = .ok (.invokevirtual 245, 3) := by decide +kernel
theorem D149_327 : decode prog_12_method_23_code 327 = .ok (.goto 7, 3) := by decide +kernel
theorem D149_330 : decode prog_12_method_23_code 330 = .ok (.aload_n 0, 1) := by decide +kernel
theorem D149_331 : decode prog_12_method_23_code 331 = .ok (.invokevirtual 255, 3) := by decide +kernel
theorem D149_334 : decode prog_12_method_23_code 334 = .ok (.aload_n 0, 1) := by decide +kernel
theorem D149_335 : decode prog_12_method_23_code 335 = .ok (.getfield 205, 3) := by decide +kernel
theorem D149_338 : decode prog_12_method_23_code 338 = .ok (.ifCond .eq 4, 3) := by decide +kernel
theorem D149_341 : decode prog_12_method_23_code 341 = .ok (.return_, 1) := by decide +kernel
theorem D149_342 : decode prog_12_method_23_code 342 = .ok (.aload_n 0, 1) := by decide +kernel
theorem D149_343 : decode prog_12_method_23_code 343 = .ok (.bipush 59, 2) := by decide +kernel
theorem D149_345 : decode prog_12_method_23_code 345 = .ok (.invokevirtual 258, 3) := by decide +kernel
theorem D149_348 : decode prog_12_method_23_code 348 = .ok (.ifCond .ne 11, 3) := by decide +kernel
theorem D149_351 : decode prog_12_method_23_code 351 = .ok (.aload_n 0, 1) := by decide +kernel
theorem D149_352 : decode prog_12_method_23_code 352 = .ok (.iconst 1, 1) := by decide +kernel
theorem D149_353 : decode prog_12_method_23_code 353 = .ok (.invokevirtual 214, 3) := by decide +kernel
theorem D149_356 : decode prog_12_method_23_code 356 = .ok (.goto 7, 3) := by decide +kernel
theorem D149_359 : decode prog_12_method_23_code 359 = .ok (.aload_n 0, 1) := by decide +kernel
theorem D149_360 : decode prog_12_method_23_code 360 = .ok (.invokevirtual 211, 3) := by decide +kernel
theorem D149_363 : decode prog_12_method_23_code 363 = .ok (.aload_n 0, 1) := by decide +kernel
theorem D149_364 : decode prog_12_method_23_code 364 = .ok (.dup, 1) := by decide +kernel
theorem D149_365 : decode prog_12_method_23_code 365 = .ok (.getfield 261, 3) := by decide +kernel
theorem D149_368 : decode prog_12_method_23_code 368 = .ok (.iconst 1, 1) := by decide +kernel
theorem D149_369 : decode prog_12_method_23_code 369 = .ok (.iadd, 1) := by decide +kernel
theorem D149_370 : decode prog_12_method_23_code 370 = .ok (.putfield 261, 3) := by decide +kernel
theorem D149_373 : decode prog_12_method_23_code 373 = .ok (.return_, 1) := by decide +kernel

theorem b149_0 {d : Nat}  {ia : Nat → Nat → Int32} {la : Nat → Nat → Int64} {pl dr : Nat} {cp : Option Nat} {cw : Option Nat} {rp : Option Nat} {K : Option Value → zHP → Prop}  : zWP (d + 1) 149 0 [some (.ref 127), none, none, none] [] (ia, la, zRA pl dr cp cw rp) K = (if ¬ (ia 127 24) = 0 then zWM d 137 [.ref 127, .int (1 : Int32)] (ia, la, zRA pl dr cp cw rp) (zK (d + 1) 149 21 [some (.ref 127), none, none, none] [] K) else (if (ia 127 25) ≤ (6 : Int32) then zWM d 148 [.ref 127, .int (ia 127 25)] (ia, la, zRA pl dr cp cw rp) (zK (d + 1) 149 32 [some (.ref 127), some (.int (ia 127 25)), none, none] [] K) else zWM d 137 [.ref 127, .int (1 : Int32)] (ia, la, zRA pl dr cp cw rp) (zK (d + 1) 149 21 [some (.ref 127), none, none, none] [] K))) := by
  refine (Q_aload_n zm_149 (Or.inl (by decide)) D149_0 rfl).trans ?_
  refine (Q_getI zm_149 (Or.inl (by decide)) D149_1 zf_10_170 (Or.inl zs_10_24) zk_127.1).trans ?_
  refine (Q_if_ne (tgt := 16) zm_149 (Or.inl (by decide)) D149_4 (by decide)).trans ?_
  refine zif_c (fun h0_ => ?_) (fun h0_ => ?_)
  · refine (Q_aload_n zm_149 (Or.inl (by decide)) D149_16 rfl).trans ?_
    refine (Q_iconst (v := 1) zm_149 (Or.inl (by decide)) D149_17 (by decide)).trans ?_
    exact Q_callv (as := [.int (1 : Int32)]) (b := 127) (rest := []) zm_149 (Or.inl (by decide)) D149_18 zc_10_214 rfl zk_127.1 (by decide) (by decide +kernel) (by decide) (by simp [zcat, Value.category]) zm_137 rfl
  · refine (Q_aload_n zm_149 (Or.inl (by decide)) D149_7 rfl).trans ?_
    refine (Q_getI zm_149 (Or.inl (by decide)) D149_8 zf_10_180 (Or.inl zs_10_25) zk_127.1).trans ?_
    refine (Q_bipush (v := 6) zm_149 (Or.inl (by decide)) D149_11 (by decide)).trans ?_
    refine (Q_ic_le (tgt := 22) zm_149 (Or.inl (by decide)) D149_13 (by decide)).trans ?_
    refine zif_c (fun h1_ => ?_) (fun h1_ => ?_)
    · refine (Q_aload_n zm_149 (Or.inl (by decide)) D149_22 rfl).trans ?_
      refine (Q_getI zm_149 (Or.inl (by decide)) D149_23 zf_10_180 (Or.inl zs_10_25) zk_127.1).trans ?_
      refine (Q_istore_n (ls' := [some (.ref 127), some (.int (ia 127 25)), none, none]) zm_149 (Or.inl (by decide)) D149_26 rfl (Nat.le_of_ble_eq_true rfl) rfl).trans ?_
      refine (Q_aload_n zm_149 (Or.inl (by decide)) D149_27 rfl).trans ?_
      refine (Q_iload_n zm_149 (Or.inl (by decide)) D149_28 rfl).trans ?_
      exact Q_callv (as := [.int (ia 127 25)]) (b := 127) (rest := []) zm_149 (Or.inl (by decide)) D149_29 zc_10_231 rfl zk_127.1 (by decide) (by decide +kernel) (by decide) (by simp [zcat, Value.category]) zm_148 rfl
    · refine (Q_aload_n zm_149 (Or.inl (by decide)) D149_16 rfl).trans ?_
      refine (Q_iconst (v := 1) zm_149 (Or.inl (by decide)) D149_17 (by decide)).trans ?_
      exact Q_callv (as := [.int (1 : Int32)]) (b := 127) (rest := []) zm_149 (Or.inl (by decide)) D149_18 zc_10_214 rfl zk_127.1 (by decide) (by decide +kernel) (by decide) (by simp [zcat, Value.category]) zm_137 rfl

theorem b149_21 {d : Nat}  {ia : Nat → Nat → Int32} {la : Nat → Nat → Int64} {pl dr : Nat} {cp : Option Nat} {cw : Option Nat} {rp : Option Nat} {K : Option Value → zHP → Prop}  : zWP d 149 21 [some (.ref 127), none, none, none] [] (ia, la, zRA pl dr cp cw rp) K = K none (ia, la, zRA pl dr cp cw rp) := by
  exact Q_return zm_149 (Or.inl (by decide)) D149_21 rfl

theorem b149_32 {d : Nat} {i1 : Int32} {s0 : Int32} {ia : Nat → Nat → Int32} {la : Nat → Nat → Int64} {pl dr : Nat} {cp : Option Nat} {cw : Option Nat} {rp : Option Nat} {K : Option Value → zHP → Prop}  : zWP (d + 1) 149 32 [some (.ref 127), some (.int i1), none, none] [.int s0] (ia, la, zRA pl dr cp cw rp) K = (if s0 = 0 then (if i1 < (3 : Int32) then zWP (d + 1) 149 70 [some (.ref 127), some (.int i1), none, none] [] (ia, la, zRA pl dr cp cw rp) K else (if (5 : Int32) < i1 then zWP (d + 1) 149 70 [some (.ref 127), some (.int i1), none, none] [] (ia, la, zRA pl dr cp cw rp) K else (if ¬ (((ia 127 19) >>> (i1 &&& 31)) &&& (1 : Int32)) = (1 : Int32) then zWP (d + 1) 149 70 [some (.ref 127), some (.int i1), none, none] [] (ia, la, zRA pl dr cp cw rp) K else zWM d 137 [.ref 127, .int (3 : Int32)] (ia, la, zRA pl dr cp cw rp) (zK (d + 1) 149 70 [some (.ref 127), some (.int i1), none, none] [] K)))) else zWM d 137 [.ref 127, .int (2 : Int32)] (ia, la, zRA pl dr cp cw rp) (zK (d + 1) 149 40 [some (.ref 127), some (.int i1), none, none] [] K)) := by
  refine (Q_if_eq (tgt := 43) zm_149 (Or.inl (by decide)) D149_32 (by decide)).trans ?_
  refine zif_c (fun h0_ => ?_) (fun h0_ => ?_)
  · refine (Q_iload_n zm_149 (Or.inl (by decide)) D149_43 rfl).trans ?_
    refine (Q_iconst (v := 3) zm_149 (Or.inl (by decide)) D149_44 (by decide)).trans ?_
    refine (Q_ic_lt (tgt := 70) zm_149 (Or.inl (by decide)) D149_45 (by decide)).trans ?_
    refine zif_c (fun h1_ => ?_) (fun h1_ => ?_)
    · rfl
    · refine (Q_iload_n zm_149 (Or.inl (by decide)) D149_48 rfl).trans ?_
      refine (Q_iconst (v := 5) zm_149 (Or.inl (by decide)) D149_49 (by decide)).trans ?_
      refine (Q_ic_gt (tgt := 70) zm_149 (Or.inl (by decide)) D149_50 (by decide)).trans ?_
      refine zif_c (fun h2_ => ?_) (fun h2_ => ?_)
      · rfl
      · refine (Q_aload_n zm_149 (Or.inl (by decide)) D149_53 rfl).trans ?_
        refine (Q_getI zm_149 (Or.inl (by decide)) D149_54 zf_10_234 (Or.inl zs_10_19) zk_127.1).trans ?_
        refine (Q_iload_n zm_149 (Or.inl (by decide)) D149_57 rfl).trans ?_
        refine (Q_ishr zm_149 (Or.inl (by decide)) D149_58).trans ?_
        refine (Q_iconst (v := 1) zm_149 (Or.inl (by decide)) D149_59 (by decide)).trans ?_
        refine (Q_iand zm_149 (Or.inl (by decide)) D149_60).trans ?_
        refine (Q_iconst (v := 1) zm_149 (Or.inl (by decide)) D149_61 (by decide)).trans ?_
        refine (Q_ic_ne (tgt := 70) zm_149 (Or.inl (by decide)) D149_62 (by decide)).trans ?_
        refine zif_c (fun h3_ => ?_) (fun h3_ => ?_)
        · rfl
        · refine (Q_aload_n zm_149 (Or.inl (by decide)) D149_65 rfl).trans ?_
          refine (Q_iconst (v := 3) zm_149 (Or.inl (by decide)) D149_66 (by decide)).trans ?_
          exact Q_callv (as := [.int (3 : Int32)]) (b := 127) (rest := []) zm_149 (Or.inl (by decide)) D149_67 zc_10_214 rfl zk_127.1 (by decide) (by decide +kernel) (by decide) (by simp [zcat, Value.category]) zm_137 rfl
  · refine (Q_aload_n zm_149 (Or.inl (by decide)) D149_35 rfl).trans ?_
    refine (Q_iconst (v := 2) zm_149 (Or.inl (by decide)) D149_36 (by decide)).trans ?_
    exact Q_callv (as := [.int (2 : Int32)]) (b := 127) (rest := []) zm_149 (Or.inl (by decide)) D149_37 zc_10_214 rfl zk_127.1 (by decide) (by decide +kernel) (by decide) (by simp [zcat, Value.category]) zm_137 rfl

theorem b149_70 {d : Nat} {i1 : Int32} {ia : Nat → Nat → Int32} {la : Nat → Nat → Int64} {pl dr : Nat} {cp : Option Nat} {cw : Option Nat} {rp : Option Nat} {K : Option Value → zHP → Prop}  : zWP (d + 1) 149 70 [some (.ref 127), some (.int i1), none, none] [] (ia, la, zRA pl dr cp cw rp) K = (if (ia 127 26) = 0 then zWM d 133 [.ref 127] ((zu ia 127 19 ((ia 127 19) ||| ((1 : Int32) <<< (i1 &&& 31)))), la, zRA pl dr cp cw rp) (zK (d + 1) 149 94 [some (.ref 127), some (.int i1), none, none] [] K) else K none (ia, la, zRA pl dr cp cw rp)) := by
  refine (Q_aload_n zm_149 (Or.inl (by decide)) D149_70 rfl).trans ?_
  refine (Q_getI zm_149 (Or.inl (by decide)) D149_71 zf_10_205 (Or.inl zs_10_26) zk_127.1).trans ?_
  refine (Q_if_eq (tgt := 78) zm_149 (Or.inl (by decide)) D149_74 (by decide)).trans ?_
  refine zif_c (fun h0_ => ?_) (fun h0_ => ?_)
  · refine (Q_aload_n zm_149 (Or.inl (by decide)) D149_78 rfl).trans ?_
    refine (Q_dup zm_149 (Or.inl (by decide)) D149_79 rfl).trans ?_
    refine (Q_getI zm_149 (Or.inl (by decide)) D149_80 zf_10_234 (Or.inl zs_10_19) zk_127.1).trans ?_
    refine (Q_iconst (v := 1) zm_149 (Or.inl (by decide)) D149_83 (by decide)).trans ?_
    refine (Q_iload_n zm_149 (Or.inl (by decide)) D149_84 rfl).trans ?_
    refine (Q_ishl zm_149 (Or.inl (by decide)) D149_85).trans ?_
    refine (Q_ior zm_149 (Or.inl (by decide)) D149_86).trans ?_
    refine (Q_putI zm_149 (Or.inl (by decide)) D149_87 zf_10_234 zs_10_19 rfl zk_127.1).trans ?_
    refine (Q_aload_n zm_149 (Or.inl (by decide)) D149_90 rfl).trans ?_
    exact Q_callv (as := []) (b := 127) (rest := []) zm_149 (Or.inl (by decide)) D149_91 zc_10_211 rfl zk_127.1 (by decide) (by decide +kernel) (by decide) (by simp [zcat, Value.category]) zm_133 rfl
  · exact Q_return zm_149 (Or.inl (by decide)) D149_77 rfl

theorem b149_40 {d : Nat} {i1 : Int32} {ia : Nat → Nat → Int32} {la : Nat → Nat → Int64} {pl dr : Nat} {cp : Option Nat} {cw : Option Nat} {rp : Option Nat} {K : Option Value → zHP → Prop}  : zWP d 149 40 [some (.ref 127), some (.int i1), none, none] [] (ia, la, zRA pl dr cp cw rp) K = zWP d 149 70 [some (.ref 127), some (.int i1), none, none] [] (ia, la, zRA pl dr cp cw rp) K := by
  refine (Q_goto (tgt := 70) zm_149 (Or.inl (by decide)) D149_40 (by decide)).trans ?_
  rfl

theorem b149_94 {d : Nat} {i1 : Int32} {ia : Nat → Nat → Int32} {la : Nat → Nat → Int64} {pl dr : Nat} {cp : Option Nat} {cw : Option Nat} {rp : Option Nat} {K : Option Value → zHP → Prop}  : zWP (d + 1) 149 94 [some (.ref 127), some (.int i1), none, none] [] (ia, la, zRA pl dr cp cw rp) K = (if i1 = 0 then zWM d 144 [.ref 127, .int (0 : Int32)] (ia, la, zRA pl dr cp cw rp) (zK (d + 1) 149 139 [some (.ref 127), some (.int i1), none, none] [.int (6 : Int32)] K) else (if i1 = 1 then zWM d 150 [.ref 127] (ia, la, zRA pl dr cp cw rp) (zK (d + 1) 149 225 [some (.ref 127), some (.int i1), none, none] [] K) else (if i1 = 2 then zWM d 144 [.ref 127, .int (2 : Int32)] (ia, la, zRA pl dr cp cw rp) (zK (d + 1) 149 235 [some (.ref 127), some (.int i1), none, none] [.int (12 : Int32)] K) else (if i1 = 3 then zWM d 141 [.ref 127, .int (0 : Int32), .int (100 : Int32)] (ia, la, zRA pl dr cp cw rp) (zK (d + 1) 149 294 [some (.ref 127), some (.int i1), none, none] [.int (3 : Int32), .ref 127] K) else (if i1 = 4 then zWM d 141 [.ref 127, .int (0 : Int32), .int (100 : Int32)] (ia, la, zRA pl dr cp cw rp) (zK (d + 1) 149 309 [some (.ref 127), some (.int i1), none, none] [.int (4 : Int32), .ref 127] K) else (if i1 = 5 then zWM d 141 [.ref 127, .int (0 : Int32), .int (99999 : Int32)] (ia, la, zRA pl dr cp cw rp) (zK (d + 1) 149 324 [some (.ref 127), some (.int i1), none, none] [.int (5 : Int32), .ref 127] K) else zWM d 151 [.ref 127] (ia, la, zRA pl dr cp cw rp) (zK (d + 1) 149 334 [some (.ref 127), some (.int i1), none, none] [] K))))))) := by
  refine (Q_iload_n zm_149 (Or.inl (by decide)) D149_94 rfl).trans ?_
  by_cases h0_ : i1 = 0
  · rw [if_pos h0_]
    refine (congrArg (fun q => zWP (d + 1) 149 95 [some (.ref 127), some (.int i1), none, none] (.int q :: []) (ia, la, zRA pl dr cp cw rp) K) h0_).trans ?_
    refine (Q_tsw (tgt := 132) zm_149 (Or.inl (by decide)) D149_95 rfl (by decide)).trans ?_
    refine (Q_bipush (v := 6) zm_149 (Or.inl (by decide)) D149_132 (by decide)).trans ?_
    refine (Q_aload_n zm_149 (Or.inl (by decide)) D149_134 rfl).trans ?_
    refine (Q_iconst (v := 0) zm_149 (Or.inl (by decide)) D149_135 (by decide)).trans ?_
    exact Q_callv (as := [.int (0 : Int32)]) (b := 127) (rest := [.int (6 : Int32)]) zm_149 (Or.inl (by decide)) D149_136 zc_10_221 rfl zk_127.1 (by decide) (by decide +kernel) (by decide) (by simp [zcat, Value.category]) zm_144 rfl
  rw [if_neg h0_]
  by_cases h1_ : i1 = 1
  · rw [if_pos h1_]
    refine (congrArg (fun q => zWP (d + 1) 149 95 [some (.ref 127), some (.int i1), none, none] (.int q :: []) (ia, la, zRA pl dr cp cw rp) K) h1_).trans ?_
    refine (Q_tsw (tgt := 221) zm_149 (Or.inl (by decide)) D149_95 rfl (by decide)).trans ?_
    refine (Q_aload_n zm_149 (Or.inl (by decide)) D149_221 rfl).trans ?_
    exact Q_callv (as := []) (b := 127) (rest := []) zm_149 (Or.inl (by decide)) D149_222 zc_10_249 rfl zk_127.1 (by decide) (by decide +kernel) (by decide) (by simp [zcat, Value.category]) zm_150 rfl
  rw [if_neg h1_]
  by_cases h2_ : i1 = 2
  · rw [if_pos h2_]
    refine (congrArg (fun q => zWP (d + 1) 149 95 [some (.ref 127), some (.int i1), none, none] (.int q :: []) (ia, la, zRA pl dr cp cw rp) K) h2_).trans ?_
    refine (Q_tsw (tgt := 228) zm_149 (Or.inl (by decide)) D149_95 rfl (by decide)).trans ?_
    refine (Q_bipush (v := 12) zm_149 (Or.inl (by decide)) D149_228 (by decide)).trans ?_
    refine (Q_aload_n zm_149 (Or.inl (by decide)) D149_230 rfl).trans ?_
    refine (Q_iconst (v := 2) zm_149 (Or.inl (by decide)) D149_231 (by decide)).trans ?_
    exact Q_callv (as := [.int (2 : Int32)]) (b := 127) (rest := [.int (12 : Int32)]) zm_149 (Or.inl (by decide)) D149_232 zc_10_221 rfl zk_127.1 (by decide) (by decide +kernel) (by decide) (by simp [zcat, Value.category]) zm_144 rfl
  rw [if_neg h2_]
  by_cases h3_ : i1 = 3
  · rw [if_pos h3_]
    refine (congrArg (fun q => zWP (d + 1) 149 95 [some (.ref 127), some (.int i1), none, none] (.int q :: []) (ia, la, zRA pl dr cp cw rp) K) h3_).trans ?_
    refine (Q_tsw (tgt := 285) zm_149 (Or.inl (by decide)) D149_95 rfl (by decide)).trans ?_
    refine (Q_aload_n zm_149 (Or.inl (by decide)) D149_285 rfl).trans ?_
    refine (Q_iconst (v := 3) zm_149 (Or.inl (by decide)) D149_286 (by decide)).trans ?_
    refine (Q_aload_n zm_149 (Or.inl (by decide)) D149_287 rfl).trans ?_
    refine (Q_iconst (v := 0) zm_149 (Or.inl (by decide)) D149_288 (by decide)).trans ?_
    refine (Q_bipush (v := 100) zm_149 (Or.inl (by decide)) D149_289 (by decide)).trans ?_
    exact Q_callv (as := [.int (0 : Int32), .int (100 : Int32)]) (b := 127) (rest := [.int (3 : Int32), .ref 127]) zm_149 (Or.inl (by decide)) D149_291 zc_10_241 rfl zk_127.1 (by decide) (by decide +kernel) (by decide) (by simp [zcat, Value.category]) zm_141 rfl
  rw [if_neg h3_]
  by_cases h4_ : i1 = 4
  · rw [if_pos h4_]
    refine (congrArg (fun q => zWP (d + 1) 149 95 [some (.ref 127), some (.int i1), none, none] (.int q :: []) (ia, la, zRA pl dr cp cw rp) K) h4_).trans ?_
    refine (Q_tsw (tgt := 300) zm_149 (Or.inl (by decide)) D149_95 rfl (by decide)).trans ?_
    refine (Q_aload_n zm_149 (Or.inl (by decide)) D149_300 rfl).trans ?_
    refine (Q_iconst (v := 4) zm_149 (Or.inl (by decide)) D149_301 (by decide)).trans ?_
    refine (Q_aload_n zm_149 (Or.inl (by decide)) D149_302 rfl).trans ?_
    refine (Q_iconst (v := 0) zm_149 (Or.inl (by decide)) D149_303 (by decide)).trans ?_
    refine (Q_bipush (v := 100) zm_149 (Or.inl (by decide)) D149_304 (by decide)).trans ?_
    exact Q_callv (as := [.int (0 : Int32), .int (100 : Int32)]) (b := 127) (rest := [.int (4 : Int32), .ref 127]) zm_149 (Or.inl (by decide)) D149_306 zc_10_241 rfl zk_127.1 (by decide) (by decide +kernel) (by decide) (by simp [zcat, Value.category]) zm_141 rfl
  rw [if_neg h4_]
  by_cases h5_ : i1 = 5
  · rw [if_pos h5_]
    refine (congrArg (fun q => zWP (d + 1) 149 95 [some (.ref 127), some (.int i1), none, none] (.int q :: []) (ia, la, zRA pl dr cp cw rp) K) h5_).trans ?_
    refine (Q_tsw (tgt := 315) zm_149 (Or.inl (by decide)) D149_95 rfl (by decide)).trans ?_
    refine (Q_aload_n zm_149 (Or.inl (by decide)) D149_315 rfl).trans ?_
    refine (Q_iconst (v := 5) zm_149 (Or.inl (by decide)) D149_316 (by decide)).trans ?_
    refine (Q_aload_n zm_149 (Or.inl (by decide)) D149_317 rfl).trans ?_
    refine (Q_iconst (v := 0) zm_149 (Or.inl (by decide)) D149_318 (by decide)).trans ?_
    refine (Q_ldc (v := 99999) zm_149 (Or.inl (by decide)) D149_319 (by decide +kernel)).trans ?_
    exact Q_callv (as := [.int (0 : Int32), .int (99999 : Int32)]) (b := 127) (rest := [.int (5 : Int32), .ref 127]) zm_149 (Or.inl (by decide)) D149_321 zc_10_241 rfl zk_127.1 (by decide) (by decide +kernel) (by decide) (by simp [zcat, Value.category]) zm_141 rfl
  rw [if_neg h5_]
  refine (Q_tsw (tgt := 330) zm_149 (Or.inl (by decide)) D149_95 (zsw_out (n := 6) (by decide) (fun q hq => ?_)) (by decide)).trans ?_
  · rcases (show q = 0 ∨ q = 1 ∨ q = 2 ∨ q = 3 ∨ q = 4 ∨ q = 5 by omega) with rfl | rfl | rfl | rfl | rfl | rfl
    · exact h0_
    · exact h1_
    · exact h2_
    · exact h3_
    · exact h4_
    · exact h5_
  refine (Q_aload_n zm_149 (Or.inl (by decide)) D149_330 rfl).trans ?_
  exact Q_callv (as := []) (b := 127) (rest := []) zm_149 (Or.inl (by decide)) D149_331 zc_10_255 rfl zk_127.1 (by decide) (by decide +kernel) (by decide) (by simp [zcat, Value.category]) zm_151 rfl

theorem b149_139 {d : Nat} {i1 : Int32} {s0 : Int32} {s1 : Int32} {ia : Nat → Nat → Int32} {la : Nat → Nat → Int64} {pl dr : Nat} {cp : Option Nat} {cw : Option Nat} {rp : Option Nat} {K : Option Value → zHP → Prop}  : zWP (d + 1) 149 139 [some (.ref 127), some (.int i1), none, none] [.int s1, .int s0] (ia, la, zRA pl dr cp cw rp) K = zWM d 144 [.ref 127, .int (0 : Int32)] (ia, la, zRA pl dr cp cw rp) (zK (d + 1) 149 158 [some (.ref 127), some (.int i1), some (.int (s0 + s1)), none] [.int (6 : Int32), .ref 130, .ref 127, .int (s0 + s1), .ref 130] K) := by
  refine (Q_iadd zm_149 (Or.inl (by decide)) D149_139).trans ?_
  refine (Q_istore_n (ls' := [some (.ref 127), some (.int i1), some (.int (s0 + s1)), none]) zm_149 (Or.inl (by decide)) D149_140 rfl (Nat.le_of_ble_eq_true rfl) rfl).trans ?_
  refine (Q_aload_n zm_149 (Or.inl (by decide)) D149_141 rfl).trans ?_
  refine (Q_getR (q := 130) zm_149 (Or.inl (by decide)) D149_142 zf_10_16 zs_10_4 zk_127.1 rfl).trans ?_
  refine (Q_iload_n zm_149 (Or.inl (by decide)) D149_145 rfl).trans ?_
  refine (Q_aload_n zm_149 (Or.inl (by decide)) D149_146 rfl).trans ?_
  refine (Q_aload_n zm_149 (Or.inl (by decide)) D149_147 rfl).trans ?_
  refine (Q_getR (q := 130) zm_149 (Or.inl (by decide)) D149_148 zf_10_16 zs_10_4 zk_127.1 rfl).trans ?_
  refine (Q_bipush (v := 6) zm_149 (Or.inl (by decide)) D149_151 (by decide)).trans ?_
  refine (Q_aload_n zm_149 (Or.inl (by decide)) D149_153 rfl).trans ?_
  refine (Q_iconst (v := 0) zm_149 (Or.inl (by decide)) D149_154 (by decide)).trans ?_
  exact Q_callv (as := [.int (0 : Int32)]) (b := 127) (rest := [.int (6 : Int32), .ref 130, .ref 127, .int (s0 + s1), .ref 130]) zm_149 (Or.inl (by decide)) D149_155 zc_10_221 rfl zk_127.1 (by decide) (by decide +kernel) (by decide) (by simp [zcat, Value.category]) zm_144 rfl

theorem b149_225 {d : Nat} {i1 : Int32} {ia : Nat → Nat → Int32} {la : Nat → Nat → Int64} {pl dr : Nat} {cp : Option Nat} {cw : Option Nat} {rp : Option Nat} {K : Option Value → zHP → Prop}  : zWP (d + 1) 149 225 [some (.ref 127), some (.int i1), none, none] [] (ia, la, zRA pl dr cp cw rp) K = (if (ia 127 26) = 0 then zWM d 139 [.ref 127, .int (59 : Int32)] (ia, la, zRA pl dr cp cw rp) (zK (d + 1) 149 348 [some (.ref 127), some (.int i1), none, none] [] K) else K none (ia, la, zRA pl dr cp cw rp)) := by
  refine (Q_goto (tgt := 334) zm_149 (Or.inl (by decide)) D149_225 (by decide)).trans ?_
  refine (Q_aload_n zm_149 (Or.inl (by decide)) D149_334 rfl).trans ?_
  refine (Q_getI zm_149 (Or.inl (by decide)) D149_335 zf_10_205 (Or.inl zs_10_26) zk_127.1).trans ?_
  refine (Q_if_eq (tgt := 342) zm_149 (Or.inl (by decide)) D149_338 (by decide)).trans ?_
  refine zif_c (fun h0_ => ?_) (fun h0_ => ?_)
  · refine (Q_aload_n zm_149 (Or.inl (by decide)) D149_342 rfl).trans ?_
    refine (Q_bipush (v := 59) zm_149 (Or.inl (by decide)) D149_343 (by decide)).trans ?_
    exact Q_callv (as := [.int (59 : Int32)]) (b := 127) (rest := []) zm_149 (Or.inl (by decide)) D149_345 zc_10_258 rfl zk_127.1 (by decide) (by decide +kernel) (by decide) (by simp [zcat, Value.category]) zm_139 rfl
  · exact Q_return zm_149 (Or.inl (by decide)) D149_341 rfl

theorem b149_235 {d : Nat} {i1 : Int32} {s0 : Int32} {s1 : Int32} {ia : Nat → Nat → Int32} {la : Nat → Nat → Int64} {pl dr : Nat} {cp : Option Nat} {cw : Option Nat} {rp : Option Nat} {K : Option Value → zHP → Prop}  : zWP (d + 1) 149 235 [some (.ref 127), some (.int i1), none, none] [.int s1, .int s0] (ia, la, zRA pl dr cp cw rp) K = zWM d 147 [.ref 127] (ia, la, zRA pl dr cp cw rp) (zK (d + 1) 149 246 [some (.ref 127), some (.int i1), none, some (.int (s0 + s1))] [.int (s0 + s1), .ref 138] K) := by
  refine (Q_iadd zm_149 (Or.inl (by decide)) D149_235).trans ?_
  refine (Q_istore_n (ls' := [some (.ref 127), some (.int i1), none, some (.int (s0 + s1))]) zm_149 (Or.inl (by decide)) D149_236 rfl (Nat.le_of_ble_eq_true rfl) rfl).trans ?_
  refine (Q_aload_n zm_149 (Or.inl (by decide)) D149_237 rfl).trans ?_
  refine (Q_getR (q := 138) zm_149 (Or.inl (by decide)) D149_238 zf_10_40 zs_10_12 zk_127.1 rfl).trans ?_
  refine (Q_iload_n zm_149 (Or.inl (by decide)) D149_241 rfl).trans ?_
  refine (Q_aload_n zm_149 (Or.inl (by decide)) D149_242 rfl).trans ?_
  exact Q_callv (as := []) (b := 127) (rest := [.int (s0 + s1), .ref 138]) zm_149 (Or.inl (by decide)) D149_243 zc_10_252 rfl zk_127.1 (by decide) (by decide +kernel) (by decide) (by simp [zcat, Value.category]) zm_147 rfl

theorem b149_294 {d : Nat} {i1 : Int32} {s1 : Int32} {s2 : Int32} {ia : Nat → Nat → Int32} {la : Nat → Nat → Int64} {pl dr : Nat} {cp : Option Nat} {cw : Option Nat} {rp : Option Nat} {K : Option Value → zHP → Prop}  : zWP (d + 1) 149 294 [some (.ref 127), some (.int i1), none, none] [.int s2, .int s1, .ref 127] (ia, la, zRA pl dr cp cw rp) K = zWM d 145 [.ref 127, .int s1, .int s2] (ia, la, zRA pl dr cp cw rp) (zK (d + 1) 149 297 [some (.ref 127), some (.int i1), none, none] [] K) := by
  exact Q_callv (as := [.int s1, .int s2]) (b := 127) (rest := []) zm_149 (Or.inl (by decide)) D149_294 zc_10_245 rfl zk_127.1 (by decide) (by decide +kernel) (by decide) (by simp [zcat, Value.category]) zm_145 rfl

theorem b149_309 {d : Nat} {i1 : Int32} {s1 : Int32} {s2 : Int32} {ia : Nat → Nat → Int32} {la : Nat → Nat → Int64} {pl dr : Nat} {cp : Option Nat} {cw : Option Nat} {rp : Option Nat} {K : Option Value → zHP → Prop}  : zWP (d + 1) 149 309 [some (.ref 127), some (.int i1), none, none] [.int s2, .int s1, .ref 127] (ia, la, zRA pl dr cp cw rp) K = zWM d 145 [.ref 127, .int s1, .int s2] (ia, la, zRA pl dr cp cw rp) (zK (d + 1) 149 312 [some (.ref 127), some (.int i1), none, none] [] K) := by
  exact Q_callv (as := [.int s1, .int s2]) (b := 127) (rest := []) zm_149 (Or.inl (by decide)) D149_309 zc_10_245 rfl zk_127.1 (by decide) (by decide +kernel) (by decide) (by simp [zcat, Value.category]) zm_145 rfl

theorem b149_324 {d : Nat} {i1 : Int32} {s1 : Int32} {s2 : Int32} {ia : Nat → Nat → Int32} {la : Nat → Nat → Int64} {pl dr : Nat} {cp : Option Nat} {cw : Option Nat} {rp : Option Nat} {K : Option Value → zHP → Prop}  : zWP (d + 1) 149 324 [some (.ref 127), some (.int i1), none, none] [.int s2, .int s1, .ref 127] (ia, la, zRA pl dr cp cw rp) K = zWM d 145 [.ref 127, .int s1, .int s2] (ia, la, zRA pl dr cp cw rp) (zK (d + 1) 149 327 [some (.ref 127), some (.int i1), none, none] [] K) := by
  exact Q_callv (as := [.int s1, .int s2]) (b := 127) (rest := []) zm_149 (Or.inl (by decide)) D149_324 zc_10_245 rfl zk_127.1 (by decide) (by decide +kernel) (by decide) (by simp [zcat, Value.category]) zm_145 rfl

theorem b149_334 {d : Nat} {i1 : Int32} {a2 : Option Value} {a3 : Option Value} {ia : Nat → Nat → Int32} {la : Nat → Nat → Int64} {pl dr : Nat} {cp : Option Nat} {cw : Option Nat} {rp : Option Nat} {K : Option Value → zHP → Prop}  : zWP (d + 1) 149 334 [some (.ref 127), some (.int i1), a2, a3] [] (ia, la, zRA pl dr cp cw rp) K = (if (ia 127 26) = 0 then zWM d 139 [.ref 127, .int (59 : Int32)] (ia, la, zRA pl dr cp cw rp) (zK (d + 1) 149 348 [some (.ref 127), some (.int i1), a2, a3] [] K) else K none (ia, la, zRA pl dr cp cw rp)) := by
  refine (Q_aload_n zm_149 (Or.inl (by decide)) D149_334 rfl).trans ?_
  refine (Q_getI zm_149 (Or.inl (by decide)) D149_335 zf_10_205 (Or.inl zs_10_26) zk_127.1).trans ?_
  refine (Q_if_eq (tgt := 342) zm_149 (Or.inl (by decide)) D149_338 (by decide)).trans ?_
  refine zif_c (fun h0_ => ?_) (fun h0_ => ?_)
  · refine (Q_aload_n zm_149 (Or.inl (by decide)) D149_342 rfl).trans ?_
    refine (Q_bipush (v := 59) zm_149 (Or.inl (by decide)) D149_343 (by decide)).trans ?_
    exact Q_callv (as := [.int (59 : Int32)]) (b := 127) (rest := []) zm_149 (Or.inl (by decide)) D149_345 zc_10_258 rfl zk_127.1 (by decide) (by decide +kernel) (by decide) (by simp [zcat, Value.category]) zm_139 rfl
  · exact Q_return zm_149 (Or.inl (by decide)) D149_341 rfl

theorem b149_158 {d : Nat} {i1 : Int32} {i2 : Int32} {s1 : Int32} {s4 : Int32} {s5 : Int32} {ia : Nat → Nat → Int32} {la : Nat → Nat → Int64} {pl dr : Nat} {cp : Option Nat} {cw : Option Nat} {rp : Option Nat} {K : Option Value → zHP → Prop}  : zWP (d + 1) 149 158 [some (.ref 127), some (.int i1), some (.int i2), none] [.int s5, .int s4, .ref 130, .ref 127, .int s1, .ref 130] (ia, la, zRA pl dr cp cw rp) K = zWM d 143 [.ref 127, .ref 130, .int s4, .int s5] (ia, la, zRA pl dr cp cw rp) (zK (d + 1) 149 161 [some (.ref 127), some (.int i1), some (.int i2), none] [.int s1, .ref 130] K) := by
  exact Q_callv (as := [.ref 130, .int s4, .int s5]) (b := 127) (rest := [.int s1, .ref 130]) zm_149 (Or.inl (by decide)) D149_158 zc_10_237 rfl zk_127.1 (by decide) (by decide +kernel) (by decide) (by simp [zcat, Value.category]) zm_143 rfl

theorem b149_348 {d : Nat} {i1 : Int32} {a2 : Option Value} {a3 : Option Value} {s0 : Int32} {ia : Nat → Nat → Int32} {la : Nat → Nat → Int64} {pl dr : Nat} {cp : Option Nat} {cw : Option Nat} {rp : Option Nat} {K : Option Value → zHP → Prop}  : zWP (d + 1) 149 348 [some (.ref 127), some (.int i1), a2, a3] [.int s0] (ia, la, zRA pl dr cp cw rp) K = (if ¬ s0 = 0 then zWM d 133 [.ref 127] (ia, la, zRA pl dr cp cw rp) (zK (d + 1) 149 363 [some (.ref 127), some (.int i1), a2, a3] [] K) else zWM d 137 [.ref 127, .int (1 : Int32)] (ia, la, zRA pl dr cp cw rp) (zK (d + 1) 149 356 [some (.ref 127), some (.int i1), a2, a3] [] K)) := by
  refine (Q_if_ne (tgt := 359) zm_149 (Or.inl (by decide)) D149_348 (by decide)).trans ?_
  refine zif_c (fun h0_ => ?_) (fun h0_ => ?_)
  · refine (Q_aload_n zm_149 (Or.inl (by decide)) D149_359 rfl).trans ?_
    exact Q_callv (as := []) (b := 127) (rest := []) zm_149 (Or.inl (by decide)) D149_360 zc_10_211 rfl zk_127.1 (by decide) (by decide +kernel) (by decide) (by simp [zcat, Value.category]) zm_133 rfl
  · refine (Q_aload_n zm_149 (Or.inl (by decide)) D149_351 rfl).trans ?_
    refine (Q_iconst (v := 1) zm_149 (Or.inl (by decide)) D149_352 (by decide)).trans ?_
    exact Q_callv (as := [.int (1 : Int32)]) (b := 127) (rest := []) zm_149 (Or.inl (by decide)) D149_353 zc_10_214 rfl zk_127.1 (by decide) (by decide +kernel) (by decide) (by simp [zcat, Value.category]) zm_137 rfl

theorem b149_246 {d : Nat} {i1 : Int32} {i3 : Int32} {s1 : Int32} {s2 : Int32} {ia : Nat → Nat → Int32} {la : Nat → Nat → Int64} {pl dr : Nat} {cp : Option Nat} {cw : Option Nat} {rp : Option Nat} {K : Option Value → zHP → Prop}  : zWP (d + 1) 149 246 [some (.ref 127), some (.int i1), none, some (.int i3)] [.int s2, .int s1, .ref 138] (ia, la, zRA pl dr cp cw rp) K = (vp_in s1 24 ∧ zWM d 147 [.ref 127] ((zu ia 138 (s1).toNatClampNeg s2), la, zRA pl dr cp cw rp) (zK (d + 1) 149 256 [some (.ref 127), some (.int i1), none, some (.int i3)] [.int i3, .ref 139] K)) := by
  refine (Q_iastore zm_149 (Or.inl (by decide)) D149_246 zk_138.1 zk_138.2).trans ?_
  refine zand_c (fun h0_ => ?_)
  refine (Q_aload_n zm_149 (Or.inl (by decide)) D149_247 rfl).trans ?_
  refine (Q_getR (q := 139) zm_149 (Or.inl (by decide)) D149_248 zf_10_43 zs_10_13 zk_127.1 rfl).trans ?_
  refine (Q_iload_n zm_149 (Or.inl (by decide)) D149_251 rfl).trans ?_
  refine (Q_aload_n zm_149 (Or.inl (by decide)) D149_252 rfl).trans ?_
  exact Q_callv (as := []) (b := 127) (rest := [.int i3, .ref 139]) zm_149 (Or.inl (by decide)) D149_253 zc_10_252 rfl zk_127.1 (by decide) (by decide +kernel) (by decide) (by simp [zcat, Value.category]) zm_147 rfl

theorem b149_297 {d : Nat} {i1 : Int32} {ia : Nat → Nat → Int32} {la : Nat → Nat → Int64} {pl dr : Nat} {cp : Option Nat} {cw : Option Nat} {rp : Option Nat} {K : Option Value → zHP → Prop}  : zWP (d + 1) 149 297 [some (.ref 127), some (.int i1), none, none] [] (ia, la, zRA pl dr cp cw rp) K = (if (ia 127 26) = 0 then zWM d 139 [.ref 127, .int (59 : Int32)] (ia, la, zRA pl dr cp cw rp) (zK (d + 1) 149 348 [some (.ref 127), some (.int i1), none, none] [] K) else K none (ia, la, zRA pl dr cp cw rp)) := by
  refine (Q_goto (tgt := 334) zm_149 (Or.inl (by decide)) D149_297 (by decide)).trans ?_
  refine (Q_aload_n zm_149 (Or.inl (by decide)) D149_334 rfl).trans ?_
  refine (Q_getI zm_149 (Or.inl (by decide)) D149_335 zf_10_205 (Or.inl zs_10_26) zk_127.1).trans ?_
  refine (Q_if_eq (tgt := 342) zm_149 (Or.inl (by decide)) D149_338 (by decide)).trans ?_
  refine zif_c (fun h0_ => ?_) (fun h0_ => ?_)
  · refine (Q_aload_n zm_149 (Or.inl (by decide)) D149_342 rfl).trans ?_
    refine (Q_bipush (v := 59) zm_149 (Or.inl (by decide)) D149_343 (by decide)).trans ?_
    exact Q_callv (as := [.int (59 : Int32)]) (b := 127) (rest := []) zm_149 (Or.inl (by decide)) D149_345 zc_10_258 rfl zk_127.1 (by decide) (by decide +kernel) (by decide) (by simp [zcat, Value.category]) zm_139 rfl
  · exact Q_return zm_149 (Or.inl (by decide)) D149_341 rfl

theorem b149_312 {d : Nat} {i1 : Int32} {ia : Nat → Nat → Int32} {la : Nat → Nat → Int64} {pl dr : Nat} {cp : Option Nat} {cw : Option Nat} {rp : Option Nat} {K : Option Value → zHP → Prop}  : zWP (d + 1) 149 312 [some (.ref 127), some (.int i1), none, none] [] (ia, la, zRA pl dr cp cw rp) K = (if (ia 127 26) = 0 then zWM d 139 [.ref 127, .int (59 : Int32)] (ia, la, zRA pl dr cp cw rp) (zK (d + 1) 149 348 [some (.ref 127), some (.int i1), none, none] [] K) else K none (ia, la, zRA pl dr cp cw rp)) := by
  refine (Q_goto (tgt := 334) zm_149 (Or.inl (by decide)) D149_312 (by decide)).trans ?_
  refine (Q_aload_n zm_149 (Or.inl (by decide)) D149_334 rfl).trans ?_
  refine (Q_getI zm_149 (Or.inl (by decide)) D149_335 zf_10_205 (Or.inl zs_10_26) zk_127.1).trans ?_
  refine (Q_if_eq (tgt := 342) zm_149 (Or.inl (by decide)) D149_338 (by decide)).trans ?_
  refine zif_c (fun h0_ => ?_) (fun h0_ => ?_)
  · refine (Q_aload_n zm_149 (Or.inl (by decide)) D149_342 rfl).trans ?_
    refine (Q_bipush (v := 59) zm_149 (Or.inl (by decide)) D149_343 (by decide)).trans ?_
    exact Q_callv (as := [.int (59 : Int32)]) (b := 127) (rest := []) zm_149 (Or.inl (by decide)) D149_345 zc_10_258 rfl zk_127.1 (by decide) (by decide +kernel) (by decide) (by simp [zcat, Value.category]) zm_139 rfl
  · exact Q_return zm_149 (Or.inl (by decide)) D149_341 rfl

theorem b149_327 {d : Nat} {i1 : Int32} {ia : Nat → Nat → Int32} {la : Nat → Nat → Int64} {pl dr : Nat} {cp : Option Nat} {cw : Option Nat} {rp : Option Nat} {K : Option Value → zHP → Prop}  : zWP (d + 1) 149 327 [some (.ref 127), some (.int i1), none, none] [] (ia, la, zRA pl dr cp cw rp) K = (if (ia 127 26) = 0 then zWM d 139 [.ref 127, .int (59 : Int32)] (ia, la, zRA pl dr cp cw rp) (zK (d + 1) 149 348 [some (.ref 127), some (.int i1), none, none] [] K) else K none (ia, la, zRA pl dr cp cw rp)) := by
  refine (Q_goto (tgt := 334) zm_149 (Or.inl (by decide)) D149_327 (by decide)).trans ?_
  refine (Q_aload_n zm_149 (Or.inl (by decide)) D149_334 rfl).trans ?_
  refine (Q_getI zm_149 (Or.inl (by decide)) D149_335 zf_10_205 (Or.inl zs_10_26) zk_127.1).trans ?_
  refine (Q_if_eq (tgt := 342) zm_149 (Or.inl (by decide)) D149_338 (by decide)).trans ?_
  refine zif_c (fun h0_ => ?_) (fun h0_ => ?_)
  · refine (Q_aload_n zm_149 (Or.inl (by decide)) D149_342 rfl).trans ?_
    refine (Q_bipush (v := 59) zm_149 (Or.inl (by decide)) D149_343 (by decide)).trans ?_
    exact Q_callv (as := [.int (59 : Int32)]) (b := 127) (rest := []) zm_149 (Or.inl (by decide)) D149_345 zc_10_258 rfl zk_127.1 (by decide) (by decide +kernel) (by decide) (by simp [zcat, Value.category]) zm_139 rfl
  · exact Q_return zm_149 (Or.inl (by decide)) D149_341 rfl

theorem b149_161 {d : Nat} {i1 : Int32} {i2 : Int32} {s1 : Int32} {s2 : Int32} {ia : Nat → Nat → Int32} {la : Nat → Nat → Int64} {pl dr : Nat} {cp : Option Nat} {cw : Option Nat} {rp : Option Nat} {K : Option Value → zHP → Prop}  : zWP d 149 161 [some (.ref 127), some (.int i1), some (.int i2), none] [.int s2, .int s1, .ref 130] (ia, la, zRA pl dr cp cw rp) K = (vp_in s1 12 ∧ zWP d 149 164 [some (.ref 127), some (.int i1), some (.int i2), some (.int (0 : Int32))] [] ((zu ia 130 (s1).toNatClampNeg s2), la, zRA pl dr cp cw rp) K) := by
  refine (Q_iastore zm_149 (Or.inl (by decide)) D149_161 zk_130.1 zk_130.2).trans ?_
  refine zand_c (fun h0_ => ?_)
  refine (Q_iconst (v := 0) zm_149 (Or.inl (by decide)) D149_162 (by decide)).trans ?_
  refine (Q_istore_n (ls' := [some (.ref 127), some (.int i1), some (.int i2), some (.int (0 : Int32))]) zm_149 (Or.inl (by decide)) D149_163 rfl (Nat.le_of_ble_eq_true rfl) rfl).trans ?_
  rfl

theorem b149_363 {d : Nat} {i1 : Int32} {a2 : Option Value} {a3 : Option Value} {ia : Nat → Nat → Int32} {la : Nat → Nat → Int64} {pl dr : Nat} {cp : Option Nat} {cw : Option Nat} {rp : Option Nat} {K : Option Value → zHP → Prop}  : zWP d 149 363 [some (.ref 127), some (.int i1), a2, a3] [] (ia, la, zRA pl dr cp cw rp) K = K none ((zu ia 127 20 ((ia 127 20) + (1 : Int32))), la, zRA pl dr cp cw rp) := by
  refine (Q_aload_n zm_149 (Or.inl (by decide)) D149_363 rfl).trans ?_
  refine (Q_dup zm_149 (Or.inl (by decide)) D149_364 rfl).trans ?_
  refine (Q_getI zm_149 (Or.inl (by decide)) D149_365 zf_10_261 (Or.inl zs_10_20) zk_127.1).trans ?_
  refine (Q_iconst (v := 1) zm_149 (Or.inl (by decide)) D149_368 (by decide)).trans ?_
  refine (Q_iadd zm_149 (Or.inl (by decide)) D149_369).trans ?_
  refine (Q_putI zm_149 (Or.inl (by decide)) D149_370 zf_10_261 zs_10_20 rfl zk_127.1).trans ?_
  exact Q_return zm_149 (Or.inl (by decide)) D149_373 rfl

theorem b149_356 {d : Nat} {i1 : Int32} {a2 : Option Value} {a3 : Option Value} {ia : Nat → Nat → Int32} {la : Nat → Nat → Int64} {pl dr : Nat} {cp : Option Nat} {cw : Option Nat} {rp : Option Nat} {K : Option Value → zHP → Prop}  : zWP d 149 356 [some (.ref 127), some (.int i1), a2, a3] [] (ia, la, zRA pl dr cp cw rp) K = K none ((zu ia 127 20 ((ia 127 20) + (1 : Int32))), la, zRA pl dr cp cw rp) := by
  refine (Q_goto (tgt := 363) zm_149 (Or.inl (by decide)) D149_356 (by decide)).trans ?_
  refine (Q_aload_n zm_149 (Or.inl (by decide)) D149_363 rfl).trans ?_
  refine (Q_dup zm_149 (Or.inl (by decide)) D149_364 rfl).trans ?_
  refine (Q_getI zm_149 (Or.inl (by decide)) D149_365 zf_10_261 (Or.inl zs_10_20) zk_127.1).trans ?_
  refine (Q_iconst (v := 1) zm_149 (Or.inl (by decide)) D149_368 (by decide)).trans ?_
  refine (Q_iadd zm_149 (Or.inl (by decide)) D149_369).trans ?_
  refine (Q_putI zm_149 (Or.inl (by decide)) D149_370 zf_10_261 zs_10_20 rfl zk_127.1).trans ?_
  exact Q_return zm_149 (Or.inl (by decide)) D149_373 rfl

theorem b149_256 {d : Nat} {i1 : Int32} {i3 : Int32} {s1 : Int32} {s2 : Int32} {ia : Nat → Nat → Int32} {la : Nat → Nat → Int64} {pl dr : Nat} {cp : Option Nat} {cw : Option Nat} {rp : Option Nat} {K : Option Value → zHP → Prop}  : zWP (d + 1) 149 256 [some (.ref 127), some (.int i1), none, some (.int i3)] [.int s2, .int s1, .ref 139] (ia, la, zRA pl dr cp cw rp) K = (vp_in s1 24 ∧ zWM d 141 [.ref 127, .int (0 : Int32), .int (99 : Int32)] ((zu ia 139 (s1).toNatClampNeg s2), la, zRA pl dr cp cw rp) (zK (d + 1) 149 269 [some (.ref 127), some (.int i1), none, some (.int i3)] [.int i3, .ref 140] K)) := by
  refine (Q_iastore zm_149 (Or.inl (by decide)) D149_256 zk_139.1 zk_139.2).trans ?_
  refine zand_c (fun h0_ => ?_)
  refine (Q_aload_n zm_149 (Or.inl (by decide)) D149_257 rfl).trans ?_
  refine (Q_getR (q := 140) zm_149 (Or.inl (by decide)) D149_258 zf_10_46 zs_10_14 zk_127.1 rfl).trans ?_
  refine (Q_iload_n zm_149 (Or.inl (by decide)) D149_261 rfl).trans ?_
  refine (Q_aload_n zm_149 (Or.inl (by decide)) D149_262 rfl).trans ?_
  refine (Q_iconst (v := 0) zm_149 (Or.inl (by decide)) D149_263 (by decide)).trans ?_
  refine (Q_bipush (v := 99) zm_149 (Or.inl (by decide)) D149_264 (by decide)).trans ?_
  exact Q_callv (as := [.int (0 : Int32), .int (99 : Int32)]) (b := 127) (rest := [.int i3, .ref 140]) zm_149 (Or.inl (by decide)) D149_266 zc_10_241 rfl zk_127.1 (by decide) (by decide +kernel) (by decide) (by simp [zcat, Value.category]) zm_141 rfl

theorem b149_164 {d : Nat} {i1 : Int32} {i2 : Int32} {i3 : Int32} {ia : Nat → Nat → Int32} {la : Nat → Nat → Int64} {pl dr : Nat} {cp : Option Nat} {cw : Option Nat} {rp : Option Nat} {K : Option Value → zHP → Prop}  : zWP (d + 1) 149 164 [some (.ref 127), some (.int i1), some (.int i2), some (.int i3)] [] (ia, la, zRA pl dr cp cw rp) K = (if (3 : Int32) ≤ i3 then zWM d 141 [.ref 127, .int (0 : Int32), .int (999 : Int32)] (ia, la, zRA pl dr cp cw rp) (zK (d + 1) 149 205 [some (.ref 127), some (.int i1), some (.int i2), some (.int i3)] [.int i2, .ref 132] K) else zWM d 141 [.ref 127, .int (0 : Int32), .int (99 : Int32)] (ia, la, zRA pl dr cp cw rp) (zK (d + 1) 149 185 [some (.ref 127), some (.int i1), some (.int i2), some (.int i3)] [.int (((3 : Int32) * i2) + i3), .ref 131] K)) := by
  refine (Q_iload_n zm_149 (Or.inl (by decide)) D149_164 rfl).trans ?_
  refine (Q_iconst (v := 3) zm_149 (Or.inl (by decide)) D149_165 (by decide)).trans ?_
  refine (Q_ic_ge (tgt := 192) zm_149 (Or.inl (by decide)) D149_166 (by decide)).trans ?_
  refine zif_c (fun h0_ => ?_) (fun h0_ => ?_)
  · refine (Q_aload_n zm_149 (Or.inl (by decide)) D149_192 rfl).trans ?_
    refine (Q_getR (q := 132) zm_149 (Or.inl (by decide)) D149_193 zf_10_22 zs_10_6 zk_127.1 rfl).trans ?_
    refine (Q_iload_n zm_149 (Or.inl (by decide)) D149_196 rfl).trans ?_
    refine (Q_aload_n zm_149 (Or.inl (by decide)) D149_197 rfl).trans ?_
    refine (Q_iconst (v := 0) zm_149 (Or.inl (by decide)) D149_198 (by decide)).trans ?_
    refine (Q_sipush (v := 999) zm_149 (Or.inl (by decide)) D149_199 (by decide)).trans ?_
    exact Q_callv (as := [.int (0 : Int32), .int (999 : Int32)]) (b := 127) (rest := [.int i2, .ref 132]) zm_149 (Or.inl (by decide)) D149_202 zc_10_241 rfl zk_127.1 (by decide) (by decide +kernel) (by decide) (by simp [zcat, Value.category]) zm_141 rfl
  · refine (Q_aload_n zm_149 (Or.inl (by decide)) D149_169 rfl).trans ?_
    refine (Q_getR (q := 131) zm_149 (Or.inl (by decide)) D149_170 zf_10_19 zs_10_5 zk_127.1 rfl).trans ?_
    refine (Q_iconst (v := 3) zm_149 (Or.inl (by decide)) D149_173 (by decide)).trans ?_
    refine (Q_iload_n zm_149 (Or.inl (by decide)) D149_174 rfl).trans ?_
    refine (Q_imul zm_149 (Or.inl (by decide)) D149_175).trans ?_
    refine (Q_iload_n zm_149 (Or.inl (by decide)) D149_176 rfl).trans ?_
    refine (Q_iadd zm_149 (Or.inl (by decide)) D149_177).trans ?_
    refine (Q_aload_n zm_149 (Or.inl (by decide)) D149_178 rfl).trans ?_
    refine (Q_iconst (v := 0) zm_149 (Or.inl (by decide)) D149_179 (by decide)).trans ?_
    refine (Q_bipush (v := 99) zm_149 (Or.inl (by decide)) D149_180 (by decide)).trans ?_
    exact Q_callv (as := [.int (0 : Int32), .int (99 : Int32)]) (b := 127) (rest := [.int (((3 : Int32) * i2) + i3), .ref 131]) zm_149 (Or.inl (by decide)) D149_182 zc_10_241 rfl zk_127.1 (by decide) (by decide +kernel) (by decide) (by simp [zcat, Value.category]) zm_141 rfl

theorem b149_269 {d : Nat} {i1 : Int32} {i3 : Int32} {s1 : Int32} {s2 : Int32} {ia : Nat → Nat → Int32} {la : Nat → Nat → Int64} {pl dr : Nat} {cp : Option Nat} {cw : Option Nat} {rp : Option Nat} {K : Option Value → zHP → Prop}  : zWP (d + 1) 149 269 [some (.ref 127), some (.int i1), none, some (.int i3)] [.int s2, .int s1, .ref 140] (ia, la, zRA pl dr cp cw rp) K = (vp_in s1 24 ∧ zWM d 144 [.ref 127, .int (2 : Int32)] ((zu ia 140 (s1).toNatClampNeg s2), la, zRA pl dr cp cw rp) (zK (d + 1) 149 277 [some (.ref 127), some (.int i1), none, some (.int i3)] [.int (2 : Int32), .ref 127] K)) := by
  refine (Q_iastore zm_149 (Or.inl (by decide)) D149_269 zk_140.1 zk_140.2).trans ?_
  refine zand_c (fun h0_ => ?_)
  refine (Q_aload_n zm_149 (Or.inl (by decide)) D149_270 rfl).trans ?_
  refine (Q_iconst (v := 2) zm_149 (Or.inl (by decide)) D149_271 (by decide)).trans ?_
  refine (Q_aload_n zm_149 (Or.inl (by decide)) D149_272 rfl).trans ?_
  refine (Q_iconst (v := 2) zm_149 (Or.inl (by decide)) D149_273 (by decide)).trans ?_
  exact Q_callv (as := [.int (2 : Int32)]) (b := 127) (rest := [.int (2 : Int32), .ref 127]) zm_149 (Or.inl (by decide)) D149_274 zc_10_221 rfl zk_127.1 (by decide) (by decide +kernel) (by decide) (by simp [zcat, Value.category]) zm_144 rfl

theorem b149_205 {d : Nat} {i1 : Int32} {i2 : Int32} {i3 : Int32} {s1 : Int32} {s2 : Int32} {ia : Nat → Nat → Int32} {la : Nat → Nat → Int64} {pl dr : Nat} {cp : Option Nat} {cw : Option Nat} {rp : Option Nat} {K : Option Value → zHP → Prop}  : zWP (d + 1) 149 205 [some (.ref 127), some (.int i1), some (.int i2), some (.int i3)] [.int s2, .int s1, .ref 132] (ia, la, zRA pl dr cp cw rp) K = (vp_in s1 12 ∧ zWM d 144 [.ref 127, .int (0 : Int32)] ((zu ia 132 (s1).toNatClampNeg s2), la, zRA pl dr cp cw rp) (zK (d + 1) 149 213 [some (.ref 127), some (.int i1), some (.int i2), some (.int i3)] [.int (0 : Int32), .ref 127] K)) := by
  refine (Q_iastore zm_149 (Or.inl (by decide)) D149_205 zk_132.1 zk_132.2).trans ?_
  refine zand_c (fun h0_ => ?_)
  refine (Q_aload_n zm_149 (Or.inl (by decide)) D149_206 rfl).trans ?_
  refine (Q_iconst (v := 0) zm_149 (Or.inl (by decide)) D149_207 (by decide)).trans ?_
  refine (Q_aload_n zm_149 (Or.inl (by decide)) D149_208 rfl).trans ?_
  refine (Q_iconst (v := 0) zm_149 (Or.inl (by decide)) D149_209 (by decide)).trans ?_
  exact Q_callv (as := [.int (0 : Int32)]) (b := 127) (rest := [.int (0 : Int32), .ref 127]) zm_149 (Or.inl (by decide)) D149_210 zc_10_221 rfl zk_127.1 (by decide) (by decide +kernel) (by decide) (by simp [zcat, Value.category]) zm_144 rfl

theorem b149_185 {d : Nat} {i1 : Int32} {i2 : Int32} {i3 : Int32} {s1 : Int32} {s2 : Int32} {ia : Nat → Nat → Int32} {la : Nat → Nat → Int64} {pl dr : Nat} {cp : Option Nat} {cw : Option Nat} {rp : Option Nat} {K : Option Value → zHP → Prop}  : zWP d 149 185 [some (.ref 127), some (.int i1), some (.int i2), some (.int i3)] [.int s2, .int s1, .ref 131] (ia, la, zRA pl dr cp cw rp) K = (vp_in s1 36 ∧ zWP d 149 164 [some (.ref 127), some (.int i1), some (.int i2), some (.int (i3 + (1 : Int32)))] [] ((zu ia 131 (s1).toNatClampNeg s2), la, zRA pl dr cp cw rp) K) := by
  refine (Q_iastore zm_149 (Or.inl (by decide)) D149_185 zk_131.1 zk_131.2).trans ?_
  refine zand_c (fun h0_ => ?_)
  refine (Q_iinc (v := 1) (ls' := [some (.ref 127), some (.int i1), some (.int i2), some (.int (i3 + (1 : Int32)))]) zm_149 (Or.inl (by decide)) D149_186 rfl rfl (by decide) rfl).trans ?_
  refine (Q_goto (tgt := 164) zm_149 (Or.inl (by decide)) D149_189 (by decide)).trans ?_
  rfl

theorem b149_277 {d : Nat} {i1 : Int32} {i3 : Int32} {s1 : Int32} {s2 : Int32} {ia : Nat → Nat → Int32} {la : Nat → Nat → Int64} {pl dr : Nat} {cp : Option Nat} {cw : Option Nat} {rp : Option Nat} {K : Option Value → zHP → Prop}  : zWP (d + 1) 149 277 [some (.ref 127), some (.int i1), none, some (.int i3)] [.int s2, .int s1, .ref 127] (ia, la, zRA pl dr cp cw rp) K = zWM d 145 [.ref 127, .int s1, .int (s2 + (1 : Int32))] (ia, la, zRA pl dr cp cw rp) (zK (d + 1) 149 282 [some (.ref 127), some (.int i1), none, some (.int i3)] [] K) := by
  refine (Q_iconst (v := 1) zm_149 (Or.inl (by decide)) D149_277 (by decide)).trans ?_
  refine (Q_iadd zm_149 (Or.inl (by decide)) D149_278).trans ?_
  exact Q_callv (as := [.int s1, .int (s2 + (1 : Int32))]) (b := 127) (rest := []) zm_149 (Or.inl (by decide)) D149_279 zc_10_245 rfl zk_127.1 (by decide) (by decide +kernel) (by decide) (by simp [zcat, Value.category]) zm_145 rfl

theorem b149_213 {d : Nat} {i1 : Int32} {i2 : Int32} {i3 : Int32} {s1 : Int32} {s2 : Int32} {ia : Nat → Nat → Int32} {la : Nat → Nat → Int64} {pl dr : Nat} {cp : Option Nat} {cw : Option Nat} {rp : Option Nat} {K : Option Value → zHP → Prop}  : zWP (d + 1) 149 213 [some (.ref 127), some (.int i1), some (.int i2), some (.int i3)] [.int s2, .int s1, .ref 127] (ia, la, zRA pl dr cp cw rp) K = zWM d 145 [.ref 127, .int s1, .int (s2 + (1 : Int32))] (ia, la, zRA pl dr cp cw rp) (zK (d + 1) 149 218 [some (.ref 127), some (.int i1), some (.int i2), some (.int i3)] [] K) := by
  refine (Q_iconst (v := 1) zm_149 (Or.inl (by decide)) D149_213 (by decide)).trans ?_
  refine (Q_iadd zm_149 (Or.inl (by decide)) D149_214).trans ?_
  exact Q_callv (as := [.int s1, .int (s2 + (1 : Int32))]) (b := 127) (rest := []) zm_149 (Or.inl (by decide)) D149_215 zc_10_245 rfl zk_127.1 (by decide) (by decide +kernel) (by decide) (by simp [zcat, Value.category]) zm_145 rfl

theorem b149_282 {d : Nat} {i1 : Int32} {i3 : Int32} {ia : Nat → Nat → Int32} {la : Nat → Nat → Int64} {pl dr : Nat} {cp : Option Nat} {cw : Option Nat} {rp : Option Nat} {K : Option Value → zHP → Prop}  : zWP (d + 1) 149 282 [some (.ref 127), some (.int i1), none, some (.int i3)] [] (ia, la, zRA pl dr cp cw rp) K = (if (ia 127 26) = 0 then zWM d 139 [.ref 127, .int (59 : Int32)] (ia, la, zRA pl dr cp cw rp) (zK (d + 1) 149 348 [some (.ref 127), some (.int i1), none, some (.int i3)] [] K) else K none (ia, la, zRA pl dr cp cw rp)) := by
  refine (Q_goto (tgt := 334) zm_149 (Or.inl (by decide)) D149_282 (by decide)).trans ?_
  refine (Q_aload_n zm_149 (Or.inl (by decide)) D149_334 rfl).trans ?_
  refine (Q_getI zm_149 (Or.inl (by decide)) D149_335 zf_10_205 (Or.inl zs_10_26) zk_127.1).trans ?_
  refine (Q_if_eq (tgt := 342) zm_149 (Or.inl (by decide)) D149_338 (by decide)).trans ?_
  refine zif_c (fun h0_ => ?_) (fun h0_ => ?_)
  · refine (Q_aload_n zm_149 (Or.inl (by decide)) D149_342 rfl).trans ?_
    refine (Q_bipush (v := 59) zm_149 (Or.inl (by decide)) D149_343 (by decide)).trans ?_
    exact Q_callv (as := [.int (59 : Int32)]) (b := 127) (rest := []) zm_149 (Or.inl (by decide)) D149_345 zc_10_258 rfl zk_127.1 (by decide) (by decide +kernel) (by decide) (by simp [zcat, Value.category]) zm_139 rfl
  · exact Q_return zm_149 (Or.inl (by decide)) D149_341 rfl

theorem b149_218 {d : Nat} {i1 : Int32} {i2 : Int32} {i3 : Int32} {ia : Nat → Nat → Int32} {la : Nat → Nat → Int64} {pl dr : Nat} {cp : Option Nat} {cw : Option Nat} {rp : Option Nat} {K : Option Value → zHP → Prop}  : zWP (d + 1) 149 218 [some (.ref 127), some (.int i1), some (.int i2), some (.int i3)] [] (ia, la, zRA pl dr cp cw rp) K = (if (ia 127 26) = 0 then zWM d 139 [.ref 127, .int (59 : Int32)] (ia, la, zRA pl dr cp cw rp) (zK (d + 1) 149 348 [some (.ref 127), some (.int i1), some (.int i2), some (.int i3)] [] K) else K none (ia, la, zRA pl dr cp cw rp)) := by
  refine (Q_goto (tgt := 334) zm_149 (Or.inl (by decide)) D149_218 (by decide)).trans ?_
  refine (Q_aload_n zm_149 (Or.inl (by decide)) D149_334 rfl).trans ?_
  refine (Q_getI zm_149 (Or.inl (by decide)) D149_335 zf_10_205 (Or.inl zs_10_26) zk_127.1).trans ?_
  refine (Q_if_eq (tgt := 342) zm_149 (Or.inl (by decide)) D149_338 (by decide)).trans ?_
  refine zif_c (fun h0_ => ?_) (fun h0_ => ?_)
  · refine (Q_aload_n zm_149 (Or.inl (by decide)) D149_342 rfl).trans ?_
    refine (Q_bipush (v := 59) zm_149 (Or.inl (by decide)) D149_343 (by decide)).trans ?_
    exact Q_callv (as := [.int (59 : Int32)]) (b := 127) (rest := []) zm_149 (Or.inl (by decide)) D149_345 zc_10_258 rfl zk_127.1 (by decide) (by decide +kernel) (by decide) (by simp [zcat, Value.category]) zm_139 rfl
  · exact Q_return zm_149 (Or.inl (by decide)) D149_341 rfl

/-! HandsLetModel.leaseLine()V -/
theorem D150_0 : decode prog_12_method_24_code 0 = .ok (.bipush 10, 2) := by decide +kernel
theorem D150_2 : decode prog_12_method_24_code 2 = .ok (.aload_n 0, 1) := by decide +kernel
theorem D150_3 : decode prog_12_method_24_code 3 = .ok (.iconst 1, 1) := by decide +kernel
theorem D150_4 : decode prog_12_method_24_code 4 = .ok (.invokevirtual 221, 3) := by decide +kernel
theorem D150_7 : decode prog_12_method_24_code 7 = .ok (.iadd, 1) := by decide +kernel
theorem D150_8 : decode prog_12_method_24_code 8 = .ok (.istore_n 1, 1) := by decide +kernel
theorem D150_9 : decode prog_12_method_24_code 9 = .ok (.aload_n 0, 1) := by decide +kernel
theorem D150_10 : decode prog_12_method_24_code 10 = .ok (.getfield 25, 3) := by decide +kernel
theorem D150_13 : decode prog_12_method_24_code 13 = .ok (.iload_n 1, 1) := by decide +kernel
theorem D150_14 : decode prog_12_method_24_code 14 = .ok (.aload_n 0, 1) := by decide +kernel
theorem D150_15 : decode prog_12_method_24_code 15 = .ok (.invokevirtual 252, 3) := by decide +kernel
theorem D150_18 : decode prog_12_method_24_code 18 = .ok (.iastore, 1) := by decide +kernel
theorem D150_19 : decode prog_12_method_24_code 19 = .ok (.aload_n 0, 1) := by decide +kernel
theorem D150_20 : decode prog_12_method_24_code 20 = .ok (.getfield 28, 3) := by decide +kernel
theorem D150_23 : decode prog_12_method_24_code 23 = .ok (.iload_n 1, 1) := by decide +kernel
theorem D150_24 : decode prog_12_method_24_code 24 = .ok (.aload_n 0, 1) := by decide +kernel
theorem D150_25 : decode prog_12_method_24_code 25 = .ok (.invokevirtual 225, 3) := by decide +kernel
theorem D150_28 : decode prog_12_method_24_code 28 = .ok (.iastore, 1) := by decide +kernel
theorem D150_29 : decode prog_12_method_24_code 29 = .ok (.aload_n 0, 1) := by decide +kernel
theorem D150_30 : decode prog_12_method_24_code 30 = .ok (.getfield 205, 3) := by decide +kernel
theorem D150_33 : decode prog_12_method_24_code 33 = .ok (.ifCond .ne 23, 3) := by decide +kernel
theorem D150_36 : decode prog_12_method_24_code 36 = .ok (.aload_n 0, 1) := by decide +kernel
theorem D150_37 : decode prog_12_method_24_code 37 = .ok (.getfield 28, 3) := by decide +kernel
theorem D150_40 : decode prog_12_method_24_code 40 = .ok (.iload_n 1, 1) := by decide +kernel
theorem D150_41 : decode prog_12_method_24_code 41 = .ok (.iaload, 1) := by decide +kernel
theorem D150_42 : decode prog_12_method_24_code 42 = .ok (.aload_n 0, 1) := by decide +kernel
theorem D150_43 : decode prog_12_method_24_code 43 = .ok (.getfield 25, 3) := by decide +kernel
theorem D150_46 : decode prog_12_method_24_code 46 = .ok (.iload_n 1, 1) := by decide +kernel
theorem D150_47 : decode prog_12_method_24_code 47 = .ok (.iaload, 1) := by decide +kernel
theorem D150_48 : decode prog_12_method_24_code 48 = .ok (.if_icmp .ne 8, 3) := by decide +kernel
theorem D150_51 : decode prog_12_method_24_code 51 = .ok (.aload_n 0, 1) := by decide +kernel
theorem D150_52 : decode prog_12_method_24_code 52 = .ok (.iconst 5, 1) := by decide +kernel
theorem D150_53 : decode prog_12_method_24_code 53 = .ok (.invokevirtual 214, 3) := by decide +kernel
theorem D150_56 : decode prog_12_method_24_code 56 = .ok (.aload_n 0, 1) := by decide +kernel
theorem D150_57 : decode prog_12_method_24_code 57 = .ok (.invokevirtual 228, 3) := by decide +kernel
theorem D150_60 : decode prog_12_method_24_code 60 = .ok (.aload_n 0, 1) := by decide +kernel
theorem D150_61 : decode prog_12_method_24_code 61 = .ok (.getfield 31, 3) := by decide +kernel
theorem D150_64 : decode prog_12_method_24_code 64 = .ok (.iload_n 1, 1) := by decide +kernel
theorem D150_65 : decode prog_12_method_24_code 65 = .ok (.aload_n 0, 1) := by decide +kernel
theorem D150_66 : decode prog_12_method_24_code 66 = .ok (.iconst 0, 1) := by decide +kernel
theorem D150_67 : decode prog_12_method_24_code 67 = .ok (.bipush 99, 2) := by decide +kernel
theorem D150_69 : decode prog_12_method_24_code 69 = .ok (.invokevirtual 241, 3) := by decide +kernel
theorem D150_72 : decode prog_12_method_24_code 72 = .ok (.iastore, 1) := by decide +kernel
theorem D150_73 : decode prog_12_method_24_code 73 = .ok (.aload_n 0, 1) := by decide +kernel
theorem D150_74 : decode prog_12_method_24_code 74 = .ok (.getfield 34, 3) := by decide +kernel
theorem D150_77 : decode prog_12_method_24_code 77 = .ok (.iload_n 1, 1) := by decide +kernel
theorem D150_78 : decode prog_12_method_24_code 78 = .ok (.aload_n 0, 1) := by decide +kernel
theorem D150_79 : decode prog_12_method_24_code 79 = .ok (.iconst 1, 1) := by decide +kernel
theorem D150_80 : decode prog_12_method_24_code 80 = .ok (.bipush 99, 2) := by decide +kernel
theorem D150_82 : decode prog_12_method_24_code 82 = .ok (.invokevirtual 241, 3) := by decide +kernel
theorem D150_85 : decode prog_12_method_24_code 85 = .ok (.iastore, 1) := by decide +kernel
theorem D150_86 : decode prog_12_method_24_code 86 = .ok (.aload_n 0, 1) := by decide +kernel
theorem D150_87 : decode prog_12_method_24_code 87 = .ok (.getfield 37, 3) := by decide +kernel
theorem D150_90 : decode prog_12_method_24_code 90 = .ok (.iload_n 1, 1) := by decide +kernel
theorem D150_91 : decode prog_12_method_24_code 91 = .ok (.aload_n 0, 1) := by decide +kernel
theorem D150_92 : decode prog_12_method_24_code 92 = .ok (.iconst 0, 1) := by decide +kernel
theorem D150_93 : decode prog_12_method_24_code 93 = .ok (.bipush 99, 2) := by decide +kernel
theorem D150_95 : decode prog_12_method_24_code 95 = .ok (.invokevirtual 241, 3) := by decide +kernel
theorem D150_98 : decode prog_12_method_24_code 98 = .ok (.iastore, 1) := by decide +kernel
theorem D150_99 : decode prog_12_method_24_code 99 = .ok (.aload_n 0, 1) := by decide +kernel
theorem D150_100 : decode prog_12_method_24_code 100 = .ok (.iconst 1, 1) := by decide +kernel
theorem D150_101 : decode prog_12_method_24_code 101 = .ok (.aload_n 0, 1) := by decide +kernel
theorem D150_102 : decode prog_12_method_24_code 102 = .ok (.iconst 1, 1) := by decide +kernel
theorem D150_103 : decode prog_12_method_24_code 103 = .ok (.invokevirtual 221, 3) := by decide +kernel
theorem D150_106 : decode prog_12_method_24_code 106 = .ok (.iconst 1, 1) := by decide +kernel
theorem D150_107 : decode prog_12_method_24_code 107 = .ok (.iadd, 1) := by decide +kernel
theorem D150_108 : decode prog_12_method_24_code 108 = .ok (.invokevirtual 245, 3) := by decide +kernel
theorem D150_111 : decode prog_12_method_24_code 111 = .ok (.return_, 1) := by decide +kernel

theorem b150_0 {d : Nat}  {ia : Nat → Nat → Int32} {la : Nat → Nat → Int64} {pl dr : Nat} {cp : Option Nat} {cw : Option Nat} {rp : Option Nat} {K : Option Value → zHP → Prop}  : zWP (d + 1) 150 0 [some (.ref 127), none] [] (ia, la, zRA pl dr cp cw rp) K = zWM d 144 [.ref 127, .int (1 : Int32)] (ia, la, zRA pl dr cp cw rp) (zK (d + 1) 150 7 [some (.ref 127), none] [.int (10 : Int32)] K) := by
  refine (Q_bipush (v := 10) zm_150 (Or.inl (by decide)) D150_0 (by decide)).trans ?_
  refine (Q_aload_n zm_150 (Or.inl (by decide)) D150_2 rfl).trans ?_
  refine (Q_iconst (v := 1) zm_150 (Or.inl (by decide)) D150_3 (by decide)).trans ?_
  exact Q_callv (as := [.int (1 : Int32)]) (b := 127) (rest := [.int (10 : Int32)]) zm_150 (Or.inl (by decide)) D150_4 zc_10_221 rfl zk_127.1 (by decide) (by decide +kernel) (by decide) (by simp [zcat, Value.category]) zm_144 rfl

theorem b150_7 {d : Nat} {s0 : Int32} {s1 : Int32} {ia : Nat → Nat → Int32} {la : Nat → Nat → Int64} {pl dr : Nat} {cp : Option Nat} {cw : Option Nat} {rp : Option Nat} {K : Option Value → zHP → Prop}  : zWP (d + 1) 150 7 [some (.ref 127), none] [.int s1, .int s0] (ia, la, zRA pl dr cp cw rp) K = zWM d 147 [.ref 127] (ia, la, zRA pl dr cp cw rp) (zK (d + 1) 150 18 [some (.ref 127), some (.int (s0 + s1))] [.int (s0 + s1), .ref 133] K) := by
  refine (Q_iadd zm_150 (Or.inl (by decide)) D150_7).trans ?_
  refine (Q_istore_n (ls' := [some (.ref 127), some (.int (s0 + s1))]) zm_150 (Or.inl (by decide)) D150_8 rfl (Nat.le_of_ble_eq_true rfl) rfl).trans ?_
  refine (Q_aload_n zm_150 (Or.inl (by decide)) D150_9 rfl).trans ?_
  refine (Q_getR (q := 133) zm_150 (Or.inl (by decide)) D150_10 zf_10_25 zs_10_7 zk_127.1 rfl).trans ?_
  refine (Q_iload_n zm_150 (Or.inl (by decide)) D150_13 rfl).trans ?_
  refine (Q_aload_n zm_150 (Or.inl (by decide)) D150_14 rfl).trans ?_
  exact Q_callv (as := []) (b := 127) (rest := [.int (s0 + s1), .ref 133]) zm_150 (Or.inl (by decide)) D150_15 zc_10_252 rfl zk_127.1 (by decide) (by decide +kernel) (by decide) (by simp [zcat, Value.category]) zm_147 rfl

theorem b150_18 {d : Nat} {i1 : Int32} {s1 : Int32} {s2 : Int32} {ia : Nat → Nat → Int32} {la : Nat → Nat → Int64} {pl dr : Nat} {cp : Option Nat} {cw : Option Nat} {rp : Option Nat} {K : Option Value → zHP → Prop}  : zWP (d + 1) 150 18 [some (.ref 127), some (.int i1)] [.int s2, .int s1, .ref 133] (ia, la, zRA pl dr cp cw rp) K = (vp_in s1 20 ∧ zWM d 146 [.ref 127] ((zu ia 133 (s1).toNatClampNeg s2), la, zRA pl dr cp cw rp) (zK (d + 1) 150 28 [some (.ref 127), some (.int i1)] [.int i1, .ref 134] K)) := by
  refine (Q_iastore zm_150 (Or.inl (by decide)) D150_18 zk_133.1 zk_133.2).trans ?_
  refine zand_c (fun h0_ => ?_)
  refine (Q_aload_n zm_150 (Or.inl (by decide)) D150_19 rfl).trans ?_
  refine (Q_getR (q := 134) zm_150 (Or.inl (by decide)) D150_20 zf_10_28 zs_10_8 zk_127.1 rfl).trans ?_
  refine (Q_iload_n zm_150 (Or.inl (by decide)) D150_23 rfl).trans ?_
  refine (Q_aload_n zm_150 (Or.inl (by decide)) D150_24 rfl).trans ?_
  exact Q_callv (as := []) (b := 127) (rest := [.int i1, .ref 134]) zm_150 (Or.inl (by decide)) D150_25 zc_10_225 rfl zk_127.1 (by decide) (by decide +kernel) (by decide) (by simp [zcat, Value.category]) zm_146 rfl

theorem b150_28 {d : Nat} {i1 : Int32} {s1 : Int32} {s2 : Int32} {ia : Nat → Nat → Int32} {la : Nat → Nat → Int64} {pl dr : Nat} {cp : Option Nat} {cw : Option Nat} {rp : Option Nat} {K : Option Value → zHP → Prop}  : zWP (d + 1) 150 28 [some (.ref 127), some (.int i1)] [.int s2, .int s1, .ref 134] (ia, la, zRA pl dr cp cw rp) K = (vp_in s1 20 ∧ (if ¬ ((zu ia 134 (s1).toNatClampNeg s2) 127 26) = 0 then zWM d 140 [.ref 127] ((zu ia 134 (s1).toNatClampNeg s2), la, zRA pl dr cp cw rp) (zK (d + 1) 150 60 [some (.ref 127), some (.int i1)] [] K) else (vp_in i1 20 ∧ (if ¬ ((zu ia 134 (s1).toNatClampNeg s2) 134 (i1).toNatClampNeg) = ((zu ia 134 (s1).toNatClampNeg s2) 133 (i1).toNatClampNeg) then zWM d 140 [.ref 127] ((zu ia 134 (s1).toNatClampNeg s2), la, zRA pl dr cp cw rp) (zK (d + 1) 150 60 [some (.ref 127), some (.int i1)] [] K) else zWM d 137 [.ref 127, .int (5 : Int32)] ((zu ia 134 (s1).toNatClampNeg s2), la, zRA pl dr cp cw rp) (zK (d + 1) 150 56 [some (.ref 127), some (.int i1)] [] K))))) := by
  refine (Q_iastore zm_150 (Or.inl (by decide)) D150_28 zk_134.1 zk_134.2).trans ?_
  refine zand_c (fun h0_ => ?_)
  refine (Q_aload_n zm_150 (Or.inl (by decide)) D150_29 rfl).trans ?_
  refine (Q_getI zm_150 (Or.inl (by decide)) D150_30 zf_10_205 (Or.inl zs_10_26) zk_127.1).trans ?_
  refine (Q_if_ne (tgt := 56) zm_150 (Or.inl (by decide)) D150_33 (by decide)).trans ?_
  refine zif_c (fun h1_ => ?_) (fun h1_ => ?_)
  · refine (Q_aload_n zm_150 (Or.inl (by decide)) D150_56 rfl).trans ?_
    exact Q_callv (as := []) (b := 127) (rest := []) zm_150 (Or.inl (by decide)) D150_57 zc_10_228 rfl zk_127.1 (by decide) (by decide +kernel) (by decide) (by simp [zcat, Value.category]) zm_140 rfl
  · refine (Q_aload_n zm_150 (Or.inl (by decide)) D150_36 rfl).trans ?_
    refine (Q_getR (q := 134) zm_150 (Or.inl (by decide)) D150_37 zf_10_28 zs_10_8 zk_127.1 rfl).trans ?_
    refine (Q_iload_n zm_150 (Or.inl (by decide)) D150_40 rfl).trans ?_
    refine (Q_iaload zm_150 (Or.inl (by decide)) D150_41 zk_134.1 zk_134.2).trans ?_
    refine zand_c (fun h2_ => ?_)
    refine (Q_aload_n zm_150 (Or.inl (by decide)) D150_42 rfl).trans ?_
    refine (Q_getR (q := 133) zm_150 (Or.inl (by decide)) D150_43 zf_10_25 zs_10_7 zk_127.1 rfl).trans ?_
    refine (Q_iload_n zm_150 (Or.inl (by decide)) D150_46 rfl).trans ?_
    refine ((Q_iaload zm_150 (Or.inl (by decide)) D150_47 zk_133.1 zk_133.2).trans (zdrop h2_)).trans ?_
    refine (Q_ic_ne (tgt := 56) zm_150 (Or.inl (by decide)) D150_48 (by decide)).trans ?_
    refine zif_c (fun h3_ => ?_) (fun h3_ => ?_)
    · refine (Q_aload_n zm_150 (Or.inl (by decide)) D150_56 rfl).trans ?_
      exact Q_callv (as := []) (b := 127) (rest := []) zm_150 (Or.inl (by decide)) D150_57 zc_10_228 rfl zk_127.1 (by decide) (by decide +kernel) (by decide) (by simp [zcat, Value.category]) zm_140 rfl
    · refine (Q_aload_n zm_150 (Or.inl (by decide)) D150_51 rfl).trans ?_
      refine (Q_iconst (v := 5) zm_150 (Or.inl (by decide)) D150_52 (by decide)).trans ?_
      exact Q_callv (as := [.int (5 : Int32)]) (b := 127) (rest := []) zm_150 (Or.inl (by decide)) D150_53 zc_10_214 rfl zk_127.1 (by decide) (by decide +kernel) (by decide) (by simp [zcat, Value.category]) zm_137 rfl

theorem b150_60 {d : Nat} {i1 : Int32} {ia : Nat → Nat → Int32} {la : Nat → Nat → Int64} {pl dr : Nat} {cp : Option Nat} {cw : Option Nat} {rp : Option Nat} {K : Option Value → zHP → Prop}  : zWP (d + 1) 150 60 [some (.ref 127), some (.int i1)] [] (ia, la, zRA pl dr cp cw rp) K = zWM d 141 [.ref 127, .int (0 : Int32), .int (99 : Int32)] (ia, la, zRA pl dr cp cw rp) (zK (d + 1) 150 72 [some (.ref 127), some (.int i1)] [.int i1, .ref 135] K) := by
  refine (Q_aload_n zm_150 (Or.inl (by decide)) D150_60 rfl).trans ?_
  refine (Q_getR (q := 135) zm_150 (Or.inl (by decide)) D150_61 zf_10_31 zs_10_9 zk_127.1 rfl).trans ?_
  refine (Q_iload_n zm_150 (Or.inl (by decide)) D150_64 rfl).trans ?_
  refine (Q_aload_n zm_150 (Or.inl (by decide)) D150_65 rfl).trans ?_
  refine (Q_iconst (v := 0) zm_150 (Or.inl (by decide)) D150_66 (by decide)).trans ?_
  refine (Q_bipush (v := 99) zm_150 (Or.inl (by decide)) D150_67 (by decide)).trans ?_
  exact Q_callv (as := [.int (0 : Int32), .int (99 : Int32)]) (b := 127) (rest := [.int i1, .ref 135]) zm_150 (Or.inl (by decide)) D150_69 zc_10_241 rfl zk_127.1 (by decide) (by decide +kernel) (by decide) (by simp [zcat, Value.category]) zm_141 rfl

theorem b150_56 {d : Nat} {i1 : Int32} {ia : Nat → Nat → Int32} {la : Nat → Nat → Int64} {pl dr : Nat} {cp : Option Nat} {cw : Option Nat} {rp : Option Nat} {K : Option Value → zHP → Prop}  : zWP (d + 1) 150 56 [some (.ref 127), some (.int i1)] [] (ia, la, zRA pl dr cp cw rp) K = zWM d 140 [.ref 127] (ia, la, zRA pl dr cp cw rp) (zK (d + 1) 150 60 [some (.ref 127), some (.int i1)] [] K) := by
  refine (Q_aload_n zm_150 (Or.inl (by decide)) D150_56 rfl).trans ?_
  exact Q_callv (as := []) (b := 127) (rest := []) zm_150 (Or.inl (by decide)) D150_57 zc_10_228 rfl zk_127.1 (by decide) (by decide +kernel) (by decide) (by simp [zcat, Value.category]) zm_140 rfl

theorem b150_72 {d : Nat} {i1 : Int32} {s1 : Int32} {s2 : Int32} {ia : Nat → Nat → Int32} {la : Nat → Nat → Int64} {pl dr : Nat} {cp : Option Nat} {cw : Option Nat} {rp : Option Nat} {K : Option Value → zHP → Prop}  : zWP (d + 1) 150 72 [some (.ref 127), some (.int i1)] [.int s2, .int s1, .ref 135] (ia, la, zRA pl dr cp cw rp) K = (vp_in s1 20 ∧ zWM d 141 [.ref 127, .int (1 : Int32), .int (99 : Int32)] ((zu ia 135 (s1).toNatClampNeg s2), la, zRA pl dr cp cw rp) (zK (d + 1) 150 85 [some (.ref 127), some (.int i1)] [.int i1, .ref 136] K)) := by
  refine (Q_iastore zm_150 (Or.inl (by decide)) D150_72 zk_135.1 zk_135.2).trans ?_
  refine zand_c (fun h0_ => ?_)
  refine (Q_aload_n zm_150 (Or.inl (by decide)) D150_73 rfl).trans ?_
  refine (Q_getR (q := 136) zm_150 (Or.inl (by decide)) D150_74 zf_10_34 zs_10_10 zk_127.1 rfl).trans ?_
  refine (Q_iload_n zm_150 (Or.inl (by decide)) D150_77 rfl).trans ?_
  refine (Q_aload_n zm_150 (Or.inl (by decide)) D150_78 rfl).trans ?_
  refine (Q_iconst (v := 1) zm_150 (Or.inl (by decide)) D150_79 (by decide)).trans ?_
  refine (Q_bipush (v := 99) zm_150 (Or.inl (by decide)) D150_80 (by decide)).trans ?_
  exact Q_callv (as := [.int (1 : Int32), .int (99 : Int32)]) (b := 127) (rest := [.int i1, .ref 136]) zm_150 (Or.inl (by decide)) D150_82 zc_10_241 rfl zk_127.1 (by decide) (by decide +kernel) (by decide) (by simp [zcat, Value.category]) zm_141 rfl

theorem b150_85 {d : Nat} {i1 : Int32} {s1 : Int32} {s2 : Int32} {ia : Nat → Nat → Int32} {la : Nat → Nat → Int64} {pl dr : Nat} {cp : Option Nat} {cw : Option Nat} {rp : Option Nat} {K : Option Value → zHP → Prop}  : zWP (d + 1) 150 85 [some (.ref 127), some (.int i1)] [.int s2, .int s1, .ref 136] (ia, la, zRA pl dr cp cw rp) K = (vp_in s1 20 ∧ zWM d 141 [.ref 127, .int (0 : Int32), .int (99 : Int32)] ((zu ia 136 (s1).toNatClampNeg s2), la, zRA pl dr cp cw rp) (zK (d + 1) 150 98 [some (.ref 127), some (.int i1)] [.int i1, .ref 137] K)) := by
  refine (Q_iastore zm_150 (Or.inl (by decide)) D150_85 zk_136.1 zk_136.2).trans ?_
  refine zand_c (fun h0_ => ?_)
  refine (Q_aload_n zm_150 (Or.inl (by decide)) D150_86 rfl).trans ?_
  refine (Q_getR (q := 137) zm_150 (Or.inl (by decide)) D150_87 zf_10_37 zs_10_11 zk_127.1 rfl).trans ?_
  refine (Q_iload_n zm_150 (Or.inl (by decide)) D150_90 rfl).trans ?_
  refine (Q_aload_n zm_150 (Or.inl (by decide)) D150_91 rfl).trans ?_
  refine (Q_iconst (v := 0) zm_150 (Or.inl (by decide)) D150_92 (by decide)).trans ?_
  refine (Q_bipush (v := 99) zm_150 (Or.inl (by decide)) D150_93 (by decide)).trans ?_
  exact Q_callv (as := [.int (0 : Int32), .int (99 : Int32)]) (b := 127) (rest := [.int i1, .ref 137]) zm_150 (Or.inl (by decide)) D150_95 zc_10_241 rfl zk_127.1 (by decide) (by decide +kernel) (by decide) (by simp [zcat, Value.category]) zm_141 rfl

theorem b150_98 {d : Nat} {i1 : Int32} {s1 : Int32} {s2 : Int32} {ia : Nat → Nat → Int32} {la : Nat → Nat → Int64} {pl dr : Nat} {cp : Option Nat} {cw : Option Nat} {rp : Option Nat} {K : Option Value → zHP → Prop}  : zWP (d + 1) 150 98 [some (.ref 127), some (.int i1)] [.int s2, .int s1, .ref 137] (ia, la, zRA pl dr cp cw rp) K = (vp_in s1 20 ∧ zWM d 144 [.ref 127, .int (1 : Int32)] ((zu ia 137 (s1).toNatClampNeg s2), la, zRA pl dr cp cw rp) (zK (d + 1) 150 106 [some (.ref 127), some (.int i1)] [.int (1 : Int32), .ref 127] K)) := by
  refine (Q_iastore zm_150 (Or.inl (by decide)) D150_98 zk_137.1 zk_137.2).trans ?_
  refine zand_c (fun h0_ => ?_)
  refine (Q_aload_n zm_150 (Or.inl (by decide)) D150_99 rfl).trans ?_
  refine (Q_iconst (v := 1) zm_150 (Or.inl (by decide)) D150_100 (by decide)).trans ?_
  refine (Q_aload_n zm_150 (Or.inl (by decide)) D150_101 rfl).trans ?_
  refine (Q_iconst (v := 1) zm_150 (Or.inl (by decide)) D150_102 (by decide)).trans ?_
  exact Q_callv (as := [.int (1 : Int32)]) (b := 127) (rest := [.int (1 : Int32), .ref 127]) zm_150 (Or.inl (by decide)) D150_103 zc_10_221 rfl zk_127.1 (by decide) (by decide +kernel) (by decide) (by simp [zcat, Value.category]) zm_144 rfl

theorem b150_106 {d : Nat} {i1 : Int32} {s1 : Int32} {s2 : Int32} {ia : Nat → Nat → Int32} {la : Nat → Nat → Int64} {pl dr : Nat} {cp : Option Nat} {cw : Option Nat} {rp : Option Nat} {K : Option Value → zHP → Prop}  : zWP (d + 1) 150 106 [some (.ref 127), some (.int i1)] [.int s2, .int s1, .ref 127] (ia, la, zRA pl dr cp cw rp) K = zWM d 145 [.ref 127, .int s1, .int (s2 + (1 : Int32))] (ia, la, zRA pl dr cp cw rp) (zK (d + 1) 150 111 [some (.ref 127), some (.int i1)] [] K) := by
  refine (Q_iconst (v := 1) zm_150 (Or.inl (by decide)) D150_106 (by decide)).trans ?_
  refine (Q_iadd zm_150 (Or.inl (by decide)) D150_107).trans ?_
  exact Q_callv (as := [.int s1, .int (s2 + (1 : Int32))]) (b := 127) (rest := []) zm_150 (Or.inl (by decide)) D150_108 zc_10_245 rfl zk_127.1 (by decide) (by decide +kernel) (by decide) (by simp [zcat, Value.category]) zm_145 rfl

theorem b150_111 {d : Nat} {i1 : Int32} {ia : Nat → Nat → Int32} {la : Nat → Nat → Int64} {pl dr : Nat} {cp : Option Nat} {cw : Option Nat} {rp : Option Nat} {K : Option Value → zHP → Prop}  : zWP d 150 111 [some (.ref 127), some (.int i1)] [] (ia, la, zRA pl dr cp cw rp) K = K none (ia, la, zRA pl dr cp cw rp) := by
  exact Q_return zm_150 (Or.inl (by decide)) D150_111 rfl

/-! HandsLetModel.lawLine()V -/
theorem D151_0 : decode prog_12_method_25_code 0 = .ok (.aload_n 0, 1) := by decide +kernel
theorem D151_1 : decode prog_12_method_25_code 1 = .ok (.getfield 170, 3) := by decide +kernel
theorem D151_4 : decode prog_12_method_25_code 4 = .ok (.ifCond .ne 21, 3) := by decide +kernel
theorem D151_7 : decode prog_12_method_25_code 7 = .ok (.aload_n 0, 1) := by decide +kernel
theorem D151_8 : decode prog_12_method_25_code 8 = .ok (.getfield 180, 3) := by decide +kernel
theorem D151_11 : decode prog_12_method_25_code 11 = .ok (.bipush 7, 2) := by decide +kernel
theorem D151_13 : decode prog_12_method_25_code 13 = .ok (.if_icmp .lt 12, 3) := by decide +kernel
theorem D151_16 : decode prog_12_method_25_code 16 = .ok (.aload_n 0, 1) := by decide +kernel
theorem D151_17 : decode prog_12_method_25_code 17 = .ok (.getfield 180, 3) := by decide +kernel
theorem D151_20 : decode prog_12_method_25_code 20 = .ok (.bipush 9, 2) := by decide +kernel
theorem D151_22 : decode prog_12_method_25_code 22 = .ok (.if_icmp .le 8, 3) := by decide +kernel
theorem D151_25 : decode prog_12_method_25_code 25 = .ok (.aload_n 0, 1) := by decide +kernel
theorem D151_26 : decode prog_12_method_25_code 26 = .ok (.iconst 1, 1) := by decide +kernel
theorem D151_27 : decode prog_12_method_25_code 27 = .ok (.invokevirtual 214, 3) := by decide +kernel
theorem D151_30 : decode prog_12_method_25_code 30 = .ok (.aload_n 0, 1) := by decide +kernel
theorem D151_31 : decode prog_12_method_25_code 31 = .ok (.getfield 180, 3) := by decide +kernel
theorem D151_34 : decode prog_12_method_25_code 34 = .ok (.bipush 7, 2) := by decide +kernel
theorem D151_36 : decode prog_12_method_25_code 36 = .ok (.isub, 1) := by decide +kernel
theorem D151_37 : decode prog_12_method_25_code 37 = .ok (.istore_n 1, 1) := by decide +kernel
theorem D151_38 : decode prog_12_method_25_code 38 = .ok (.aload_n 0, 1) := by decide +kernel
theorem D151_39 : decode prog_12_method_25_code 39 = .ok (.getfield 205, 3) := by decide +kernel
theorem D151_42 : decode prog_12_method_25_code 42 = .ok (.ifCond .ne 23, 3) := by decide +kernel
theorem D151_45 : decode prog_12_method_25_code 45 = .ok (.aload_n 0, 1) := by decide +kernel
theorem D151_46 : decode prog_12_method_25_code 46 = .ok (.getfield 234, 3) := by decide +kernel
theorem D151_49 : decode prog_12_method_25_code 49 = .ok (.bipush 16, 2) := by decide +kernel
theorem D151_51 : decode prog_12_method_25_code 51 = .ok (.iload_n 1, 1) := by decide +kernel
theorem D151_52 : decode prog_12_method_25_code 52 = .ok (.iadd, 1) := by decide +kernel
theorem D151_53 : decode prog_12_method_25_code 53 = .ok (.ishr, 1) := by decide +kernel
theorem D151_54 : decode prog_12_method_25_code 54 = .ok (.iconst 1, 1) := by decide +kernel
theorem D151_55 : decode prog_12_method_25_code 55 = .ok (.iand, 1) := by decide +kernel
theorem D151_56 : decode prog_12_method_25_code 56 = .ok (.iconst 1, 1) := by decide +kernel
theorem D151_57 : decode prog_12_method_25_code 57 = .ok (.if_icmp .ne 8, 3) := by decide +kernel
theorem D151_60 : decode prog_12_method_25_code 60 = .ok (.aload_n 0, 1) := by decide +kernel
theorem D151_61 : decode prog_12_method_25_code 61 = .ok (.iconst 3, 1) := by decide +kernel
theorem D151_62 : decode prog_12_method_25_code 62 = .ok (.invokevirtual 214, 3) := by decide +kernel
theorem D151_65 : decode prog_12_method_25_code 65 = .ok (.aload_n 0, 1) := by decide +kernel
theorem D151_66 : decode prog_12_method_25_code 66 = .ok (.getfield 205, 3) := by decide +kernel
theorem D151_69 : decode prog_12_method_25_code 69 = .ok (.ifCond .eq 4, 3) := by decide +kernel
theorem D151_72 : decode prog_12_method_25_code 72 = .ok (.return_, 1) := by decide +kernel
theorem D151_73 : decode prog_12_method_25_code 73 = .ok (.aload_n 0, 1) := by decide +kernel
theorem D151_74 : decode prog_12_method_25_code 74 = .ok (.dup, 1) := by decide +kernel
theorem D151_75 : decode prog_12_method_25_code 75 = .ok (.getfield 234, 3) := by decide +kernel
theorem D151_78 : decode prog_12_method_25_code 78 = .ok (.iconst 1, 1) := by decide +kernel
theorem D151_79 : decode prog_12_method_25_code 79 = .ok (.bipush 16, 2) := by decide +kernel
theorem D151_81 : decode prog_12_method_25_code 81 = .ok (.iload_n 1, 1) := by decide +kernel
theorem D151_82 : decode prog_12_method_25_code 82 = .ok (.iadd, 1) := by decide +kernel
theorem D151_83 : decode prog_12_method_25_code 83 = .ok (.ishl, 1) := by decide +kernel
theorem D151_84 : decode prog_12_method_25_code 84 = .ok (.ior, 1) := by decide +kernel
theorem D151_85 : decode prog_12_method_25_code 85 = .ok (.putfield 234, 3) := by decide +kernel
theorem D151_88 : decode prog_12_method_25_code 88 = .ok (.aload_n 0, 1) := by decide +kernel
theorem D151_89 : decode prog_12_method_25_code 89 = .ok (.invokevirtual 211, 3) := by decide +kernel
theorem D151_92 : decode prog_12_method_25_code 92 = .ok (.aload_n 0, 1) := by decide +kernel
theorem D151_93 : decode prog_12_method_25_code 93 = .ok (.getfield 49, 3) := by decide +kernel
theorem D151_96 : decode prog_12_method_25_code 96 = .ok (.iconst 3, 1) := by decide +kernel
theorem D151_97 : decode prog_12_method_25_code 97 = .ok (.iload_n 1, 1) := by decide +kernel
theorem D151_98 : decode prog_12_method_25_code 98 = .ok (.iadd, 1) := by decide +kernel
theorem D151_99 : decode prog_12_method_25_code 99 = .ok (.aload_n 0, 1) := by decide +kernel
theorem D151_100 : decode prog_12_method_25_code 100 = .ok (.bipush 6, 2) := by decide +kernel
theorem D151_102 : decode prog_12_method_25_code 102 = .ok (.invokevirtual 221, 3) := by decide +kernel
theorem D151_105 : decode prog_12_method_25_code 105 = .ok (.iastore, 1) := by decide +kernel
theorem D151_106 : decode prog_12_method_25_code 106 = .ok (.aload_n 0, 1) := by decide +kernel
theorem D151_107 : decode prog_12_method_25_code 107 = .ok (.invokevirtual 264, 3) := by decide +kernel
theorem D151_110 : decode prog_12_method_25_code 110 = .ok (.aload_n 0, 1) := by decide +kernel
theorem D151_111 : decode prog_12_method_25_code 111 = .ok (.getfield 52, 3) := by decide +kernel
theorem D151_114 : decode prog_12_method_25_code 114 = .ok (.iconst 3, 1) := by decide +kernel
theorem D151_115 : decode prog_12_method_25_code 115 = .ok (.iload_n 1, 1) := by decide +kernel
theorem D151_116 : decode prog_12_method_25_code 116 = .ok (.iadd, 1) := by decide +kernel
theorem D151_117 : decode prog_12_method_25_code 117 = .ok (.aload_n 0, 1) := by decide +kernel
theorem D151_118 : decode prog_12_method_25_code 118 = .ok (.bipush 6, 2) := by decide +kernel
theorem D151_120 : decode prog_12_method_25_code 120 = .ok (.invokevirtual 221, 3) := by decide +kernel
theorem D151_123 : decode prog_12_method_25_code 123 = .ok (.iastore, 1) := by decide +kernel
theorem D151_124 : decode prog_12_method_25_code 124 = .ok (.return_, 1) := by decide +kernel

theorem b151_0 {d : Nat}  {ia : Nat → Nat → Int32} {la : Nat → Nat → Int64} {pl dr : Nat} {cp : Option Nat} {cw : Option Nat} {rp : Option Nat} {K : Option Value → zHP → Prop}  : zWP (d + 1) 151 0 [some (.ref 127), none] [] (ia, la, zRA pl dr cp cw rp) K = (if ¬ (ia 127 24) = 0 then zWM d 137 [.ref 127, .int (1 : Int32)] (ia, la, zRA pl dr cp cw rp) (zK (d + 1) 151 30 [some (.ref 127), none] [] K) else (if (ia 127 25) < (7 : Int32) then zWM d 137 [.ref 127, .int (1 : Int32)] (ia, la, zRA pl dr cp cw rp) (zK (d + 1) 151 30 [some (.ref 127), none] [] K) else (if (ia 127 25) ≤ (9 : Int32) then zWP (d + 1) 151 30 [some (.ref 127), none] [] (ia, la, zRA pl dr cp cw rp) K else zWM d 137 [.ref 127, .int (1 : Int32)] (ia, la, zRA pl dr cp cw rp) (zK (d + 1) 151 30 [some (.ref 127), none] [] K)))) := by
  refine (Q_aload_n zm_151 (Or.inl (by decide)) D151_0 rfl).trans ?_
  refine (Q_getI zm_151 (Or.inl (by decide)) D151_1 zf_10_170 (Or.inl zs_10_24) zk_127.1).trans ?_
  refine (Q_if_ne (tgt := 25) zm_151 (Or.inl (by decide)) D151_4 (by decide)).trans ?_
  refine zif_c (fun h0_ => ?_) (fun h0_ => ?_)
  · refine (Q_aload_n zm_151 (Or.inl (by decide)) D151_25 rfl).trans ?_
    refine (Q_iconst (v := 1) zm_151 (Or.inl (by decide)) D151_26 (by decide)).trans ?_
    exact Q_callv (as := [.int (1 : Int32)]) (b := 127) (rest := []) zm_151 (Or.inl (by decide)) D151_27 zc_10_214 rfl zk_127.1 (by decide) (by decide +kernel) (by decide) (by simp [zcat, Value.category]) zm_137 rfl
  · refine (Q_aload_n zm_151 (Or.inl (by decide)) D151_7 rfl).trans ?_
    refine (Q_getI zm_151 (Or.inl (by decide)) D151_8 zf_10_180 (Or.inl zs_10_25) zk_127.1).trans ?_
    refine (Q_bipush (v := 7) zm_151 (Or.inl (by decide)) D151_11 (by decide)).trans ?_
    refine (Q_ic_lt (tgt := 25) zm_151 (Or.inl (by decide)) D151_13 (by decide)).trans ?_
    refine zif_c (fun h1_ => ?_) (fun h1_ => ?_)
    · refine (Q_aload_n zm_151 (Or.inl (by decide)) D151_25 rfl).trans ?_
      refine (Q_iconst (v := 1) zm_151 (Or.inl (by decide)) D151_26 (by decide)).trans ?_
      exact Q_callv (as := [.int (1 : Int32)]) (b := 127) (rest := []) zm_151 (Or.inl (by decide)) D151_27 zc_10_214 rfl zk_127.1 (by decide) (by decide +kernel) (by decide) (by simp [zcat, Value.category]) zm_137 rfl
    · refine (Q_aload_n zm_151 (Or.inl (by decide)) D151_16 rfl).trans ?_
      refine (Q_getI zm_151 (Or.inl (by decide)) D151_17 zf_10_180 (Or.inl zs_10_25) zk_127.1).trans ?_
      refine (Q_bipush (v := 9) zm_151 (Or.inl (by decide)) D151_20 (by decide)).trans ?_
      refine (Q_ic_le (tgt := 30) zm_151 (Or.inl (by decide)) D151_22 (by decide)).trans ?_
      refine zif_c (fun h2_ => ?_) (fun h2_ => ?_)
      · rfl
      · refine (Q_aload_n zm_151 (Or.inl (by decide)) D151_25 rfl).trans ?_
        refine (Q_iconst (v := 1) zm_151 (Or.inl (by decide)) D151_26 (by decide)).trans ?_
        exact Q_callv (as := [.int (1 : Int32)]) (b := 127) (rest := []) zm_151 (Or.inl (by decide)) D151_27 zc_10_214 rfl zk_127.1 (by decide) (by decide +kernel) (by decide) (by simp [zcat, Value.category]) zm_137 rfl

theorem b151_30 {d : Nat}  {ia : Nat → Nat → Int32} {la : Nat → Nat → Int64} {pl dr : Nat} {cp : Option Nat} {cw : Option Nat} {rp : Option Nat} {K : Option Value → zHP → Prop}  : zWP (d + 1) 151 30 [some (.ref 127), none] [] (ia, la, zRA pl dr cp cw rp) K = (if ¬ (ia 127 26) = 0 then zWP (d + 1) 151 65 [some (.ref 127), some (.int ((ia 127 25) - (7 : Int32)))] [] (ia, la, zRA pl dr cp cw rp) K else (if ¬ (((ia 127 19) >>> (((16 : Int32) + ((ia 127 25) - (7 : Int32))) &&& 31)) &&& (1 : Int32)) = (1 : Int32) then zWP (d + 1) 151 65 [some (.ref 127), some (.int ((ia 127 25) - (7 : Int32)))] [] (ia, la, zRA pl dr cp cw rp) K else zWM d 137 [.ref 127, .int (3 : Int32)] (ia, la, zRA pl dr cp cw rp) (zK (d + 1) 151 65 [some (.ref 127), some (.int ((ia 127 25) - (7 : Int32)))] [] K))) := by
  refine (Q_aload_n zm_151 (Or.inl (by decide)) D151_30 rfl).trans ?_
  refine (Q_getI zm_151 (Or.inl (by decide)) D151_31 zf_10_180 (Or.inl zs_10_25) zk_127.1).trans ?_
  refine (Q_bipush (v := 7) zm_151 (Or.inl (by decide)) D151_34 (by decide)).trans ?_
  refine (Q_isub zm_151 (Or.inl (by decide)) D151_36).trans ?_
  refine (Q_istore_n (ls' := [some (.ref 127), some (.int ((ia 127 25) - (7 : Int32)))]) zm_151 (Or.inl (by decide)) D151_37 rfl (Nat.le_of_ble_eq_true rfl) rfl).trans ?_
  refine (Q_aload_n zm_151 (Or.inl (by decide)) D151_38 rfl).trans ?_
  refine (Q_getI zm_151 (Or.inl (by decide)) D151_39 zf_10_205 (Or.inl zs_10_26) zk_127.1).trans ?_
  refine (Q_if_ne (tgt := 65) zm_151 (Or.inl (by decide)) D151_42 (by decide)).trans ?_
  refine zif_c (fun h0_ => ?_) (fun h0_ => ?_)
  · rfl
  · refine (Q_aload_n zm_151 (Or.inl (by decide)) D151_45 rfl).trans ?_
    refine (Q_getI zm_151 (Or.inl (by decide)) D151_46 zf_10_234 (Or.inl zs_10_19) zk_127.1).trans ?_
    refine (Q_bipush (v := 16) zm_151 (Or.inl (by decide)) D151_49 (by decide)).trans ?_
    refine (Q_iload_n zm_151 (Or.inl (by decide)) D151_51 rfl).trans ?_
    refine (Q_iadd zm_151 (Or.inl (by decide)) D151_52).trans ?_
    refine (Q_ishr zm_151 (Or.inl (by decide)) D151_53).trans ?_
    refine (Q_iconst (v := 1) zm_151 (Or.inl (by decide)) D151_54 (by decide)).trans ?_
    refine (Q_iand zm_151 (Or.inl (by decide)) D151_55).trans ?_
    refine (Q_iconst (v := 1) zm_151 (Or.inl (by decide)) D151_56 (by decide)).trans ?_
    refine (Q_ic_ne (tgt := 65) zm_151 (Or.inl (by decide)) D151_57 (by decide)).trans ?_
    refine zif_c (fun h1_ => ?_) (fun h1_ => ?_)
    · rfl
    · refine (Q_aload_n zm_151 (Or.inl (by decide)) D151_60 rfl).trans ?_
      refine (Q_iconst (v := 3) zm_151 (Or.inl (by decide)) D151_61 (by decide)).trans ?_
      exact Q_callv (as := [.int (3 : Int32)]) (b := 127) (rest := []) zm_151 (Or.inl (by decide)) D151_62 zc_10_214 rfl zk_127.1 (by decide) (by decide +kernel) (by decide) (by simp [zcat, Value.category]) zm_137 rfl

theorem b151_65 {d : Nat} {i1 : Int32} {ia : Nat → Nat → Int32} {la : Nat → Nat → Int64} {pl dr : Nat} {cp : Option Nat} {cw : Option Nat} {rp : Option Nat} {K : Option Value → zHP → Prop}  : zWP (d + 1) 151 65 [some (.ref 127), some (.int i1)] [] (ia, la, zRA pl dr cp cw rp) K = (if (ia 127 26) = 0 then zWM d 133 [.ref 127] ((zu ia 127 19 ((ia 127 19) ||| ((1 : Int32) <<< (((16 : Int32) + i1) &&& 31)))), la, zRA pl dr cp cw rp) (zK (d + 1) 151 92 [some (.ref 127), some (.int i1)] [] K) else K none (ia, la, zRA pl dr cp cw rp)) := by
  refine (Q_aload_n zm_151 (Or.inl (by decide)) D151_65 rfl).trans ?_
  refine (Q_getI zm_151 (Or.inl (by decide)) D151_66 zf_10_205 (Or.inl zs_10_26) zk_127.1).trans ?_
  refine (Q_if_eq (tgt := 73) zm_151 (Or.inl (by decide)) D151_69 (by decide)).trans ?_
  refine zif_c (fun h0_ => ?_) (fun h0_ => ?_)
  · refine (Q_aload_n zm_151 (Or.inl (by decide)) D151_73 rfl).trans ?_
    refine (Q_dup zm_151 (Or.inl (by decide)) D151_74 rfl).trans ?_
    refine (Q_getI zm_151 (Or.inl (by decide)) D151_75 zf_10_234 (Or.inl zs_10_19) zk_127.1).trans ?_
    refine (Q_iconst (v := 1) zm_151 (Or.inl (by decide)) D151_78 (by decide)).trans ?_
    refine (Q_bipush (v := 16) zm_151 (Or.inl (by decide)) D151_79 (by decide)).trans ?_
    refine (Q_iload_n zm_151 (Or.inl (by decide)) D151_81 rfl).trans ?_
    refine (Q_iadd zm_151 (Or.inl (by decide)) D151_82).trans ?_
    refine (Q_ishl zm_151 (Or.inl (by decide)) D151_83).trans ?_
    refine (Q_ior zm_151 (Or.inl (by decide)) D151_84).trans ?_
    refine (Q_putI zm_151 (Or.inl (by decide)) D151_85 zf_10_234 zs_10_19 rfl zk_127.1).trans ?_
    refine (Q_aload_n zm_151 (Or.inl (by decide)) D151_88 rfl).trans ?_
    exact Q_callv (as := []) (b := 127) (rest := []) zm_151 (Or.inl (by decide)) D151_89 zc_10_211 rfl zk_127.1 (by decide) (by decide +kernel) (by decide) (by simp [zcat, Value.category]) zm_133 rfl
  · exact Q_return zm_151 (Or.inl (by decide)) D151_72 rfl

theorem b151_92 {d : Nat} {i1 : Int32} {ia : Nat → Nat → Int32} {la : Nat → Nat → Int64} {pl dr : Nat} {cp : Option Nat} {cw : Option Nat} {rp : Option Nat} {K : Option Value → zHP → Prop}  : zWP (d + 1) 151 92 [some (.ref 127), some (.int i1)] [] (ia, la, zRA pl dr cp cw rp) K = zWM d 144 [.ref 127, .int (6 : Int32)] (ia, la, zRA pl dr cp cw rp) (zK (d + 1) 151 105 [some (.ref 127), some (.int i1)] [.int ((3 : Int32) + i1), .ref 141] K) := by
  refine (Q_aload_n zm_151 (Or.inl (by decide)) D151_92 rfl).trans ?_
  refine (Q_getR (q := 141) zm_151 (Or.inl (by decide)) D151_93 zf_10_49 zs_10_15 zk_127.1 rfl).trans ?_
  refine (Q_iconst (v := 3) zm_151 (Or.inl (by decide)) D151_96 (by decide)).trans ?_
  refine (Q_iload_n zm_151 (Or.inl (by decide)) D151_97 rfl).trans ?_
  refine (Q_iadd zm_151 (Or.inl (by decide)) D151_98).trans ?_
  refine (Q_aload_n zm_151 (Or.inl (by decide)) D151_99 rfl).trans ?_
  refine (Q_bipush (v := 6) zm_151 (Or.inl (by decide)) D151_100 (by decide)).trans ?_
  exact Q_callv (as := [.int (6 : Int32)]) (b := 127) (rest := [.int ((3 : Int32) + i1), .ref 141]) zm_151 (Or.inl (by decide)) D151_102 zc_10_221 rfl zk_127.1 (by decide) (by decide +kernel) (by decide) (by simp [zcat, Value.category]) zm_144 rfl

theorem b151_105 {d : Nat} {i1 : Int32} {s1 : Int32} {s2 : Int32} {ia : Nat → Nat → Int32} {la : Nat → Nat → Int64} {pl dr : Nat} {cp : Option Nat} {cw : Option Nat} {rp : Option Nat} {K : Option Value → zHP → Prop}  : zWP (d + 1) 151 105 [some (.ref 127), some (.int i1)] [.int s2, .int s1, .ref 141] (ia, la, zRA pl dr cp cw rp) K = (vp_in s1 6 ∧ zWM d 154 [.ref 127] ((zu ia 141 (s1).toNatClampNeg s2), la, zRA pl dr cp cw rp) (zK (d + 1) 151 110 [some (.ref 127), some (.int i1)] [] K)) := by
  refine (Q_iastore zm_151 (Or.inl (by decide)) D151_105 zk_141.1 zk_141.2).trans ?_
  refine zand_c (fun h0_ => ?_)
  refine (Q_aload_n zm_151 (Or.inl (by decide)) D151_106 rfl).trans ?_
  exact Q_callv (as := []) (b := 127) (rest := []) zm_151 (Or.inl (by decide)) D151_107 zc_10_264 rfl zk_127.1 (by decide) (by decide +kernel) (by decide) (by simp [zcat, Value.category]) zm_154 rfl

theorem b151_110 {d : Nat} {i1 : Int32} {ia : Nat → Nat → Int32} {la : Nat → Nat → Int64} {pl dr : Nat} {cp : Option Nat} {cw : Option Nat} {rp : Option Nat} {K : Option Value → zHP → Prop}  : zWP (d + 1) 151 110 [some (.ref 127), some (.int i1)] [] (ia, la, zRA pl dr cp cw rp) K = zWM d 144 [.ref 127, .int (6 : Int32)] (ia, la, zRA pl dr cp cw rp) (zK (d + 1) 151 123 [some (.ref 127), some (.int i1)] [.int ((3 : Int32) + i1), .ref 142] K) := by
  refine (Q_aload_n zm_151 (Or.inl (by decide)) D151_110 rfl).trans ?_
  refine (Q_getR (q := 142) zm_151 (Or.inl (by decide)) D151_111 zf_10_52 zs_10_16 zk_127.1 rfl).trans ?_
  refine (Q_iconst (v := 3) zm_151 (Or.inl (by decide)) D151_114 (by decide)).trans ?_
  refine (Q_iload_n zm_151 (Or.inl (by decide)) D151_115 rfl).trans ?_
  refine (Q_iadd zm_151 (Or.inl (by decide)) D151_116).trans ?_
  refine (Q_aload_n zm_151 (Or.inl (by decide)) D151_117 rfl).trans ?_
  refine (Q_bipush (v := 6) zm_151 (Or.inl (by decide)) D151_118 (by decide)).trans ?_
  exact Q_callv (as := [.int (6 : Int32)]) (b := 127) (rest := [.int ((3 : Int32) + i1), .ref 142]) zm_151 (Or.inl (by decide)) D151_120 zc_10_221 rfl zk_127.1 (by decide) (by decide +kernel) (by decide) (by simp [zcat, Value.category]) zm_144 rfl

theorem b151_123 {d : Nat} {i1 : Int32} {s1 : Int32} {s2 : Int32} {ia : Nat → Nat → Int32} {la : Nat → Nat → Int64} {pl dr : Nat} {cp : Option Nat} {cw : Option Nat} {rp : Option Nat} {K : Option Value → zHP → Prop}  : zWP d 151 123 [some (.ref 127), some (.int i1)] [.int s2, .int s1, .ref 142] (ia, la, zRA pl dr cp cw rp) K = (vp_in s1 6 ∧ K none ((zu ia 142 (s1).toNatClampNeg s2), la, zRA pl dr cp cw rp)) := by
  refine (Q_iastore zm_151 (Or.inl (by decide)) D151_123 zk_142.1 zk_142.2).trans ?_
  refine zand_c (fun h0_ => ?_)
  exact Q_return zm_151 (Or.inl (by decide)) D151_124 rfl

/-! HandsLetModel.puts(II)V -/
theorem D152_0 : decode prog_12_method_26_code 0 = .ok (.aload_n 0, 1) := by decide +kernel
theorem D152_1 : decode prog_12_method_26_code 1 = .ok (.getfield 205, 3) := by decide +kernel
theorem D152_4 : decode prog_12_method_26_code 4 = .ok (.ifCond .eq 4, 3) := by decide +kernel
theorem D152_7 : decode prog_12_method_26_code 7 = .ok (.return_, 1) := by decide +kernel
theorem D152_8 : decode prog_12_method_26_code 8 = .ok (.aload_n 0, 1) := by decide +kernel
theorem D152_9 : decode prog_12_method_26_code 9 = .ok (.getfield 55, 3) := by decide +kernel
theorem D152_12 : decode prog_12_method_26_code 12 = .ok (.bipush 64, 2) := by decide +kernel
theorem D152_14 : decode prog_12_method_26_code 14 = .ok (.aload_n 0, 1) := by decide +kernel
theorem D152_15 : decode prog_12_method_26_code 15 = .ok (.bipush 6, 2) := by decide +kernel
theorem D152_17 : decode prog_12_method_26_code 17 = .ok (.invokevirtual 221, 3) := by decide +kernel
theorem D152_20 : decode prog_12_method_26_code 20 = .ok (.iadd, 1) := by decide +kernel
theorem D152_21 : decode prog_12_method_26_code 21 = .ok (.iload_n 1, 1) := by decide +kernel
theorem D152_22 : decode prog_12_method_26_code 22 = .ok (.iastore, 1) := by decide +kernel
theorem D152_23 : decode prog_12_method_26_code 23 = .ok (.aload_n 0, 1) := by decide +kernel
theorem D152_24 : decode prog_12_method_26_code 24 = .ok (.getfield 58, 3) := by decide +kernel
theorem D152_27 : decode prog_12_method_26_code 27 = .ok (.bipush 64, 2) := by decide +kernel
theorem D152_29 : decode prog_12_method_26_code 29 = .ok (.aload_n 0, 1) := by decide +kernel
theorem D152_30 : decode prog_12_method_26_code 30 = .ok (.bipush 6, 2) := by decide +kernel
theorem D152_32 : decode prog_12_method_26_code 32 = .ok (.invokevirtual 221, 3) := by decide +kernel
theorem D152_35 : decode prog_12_method_26_code 35 = .ok (.iadd, 1) := by decide +kernel
theorem D152_36 : decode prog_12_method_26_code 36 = .ok (.iload_n 2, 1) := by decide +kernel
theorem D152_37 : decode prog_12_method_26_code 37 = .ok (.iastore, 1) := by decide +kernel
theorem D152_38 : decode prog_12_method_26_code 38 = .ok (.aload_n 0, 1) := by decide +kernel
theorem D152_39 : decode prog_12_method_26_code 39 = .ok (.bipush 6, 2) := by decide +kernel
theorem D152_41 : decode prog_12_method_26_code 41 = .ok (.aload_n 0, 1) := by decide +kernel
theorem D152_42 : decode prog_12_method_26_code 42 = .ok (.bipush 6, 2) := by decide +kernel
theorem D152_44 : decode prog_12_method_26_code 44 = .ok (.invokevirtual 221, 3) := by decide +kernel
theorem D152_47 : decode prog_12_method_26_code 47 = .ok (.iconst 1, 1) := by decide +kernel
theorem D152_48 : decode prog_12_method_26_code 48 = .ok (.iadd, 1) := by decide +kernel
theorem D152_49 : decode prog_12_method_26_code 49 = .ok (.invokevirtual 245, 3) := by decide +kernel
theorem D152_52 : decode prog_12_method_26_code 52 = .ok (.return_, 1) := by decide +kernel

theorem b152_0 {d : Nat} {i1 : Int32} {i2 : Int32} {ia : Nat → Nat → Int32} {la : Nat → Nat → Int64} {pl dr : Nat} {cp : Option Nat} {cw : Option Nat} {rp : Option Nat} {K : Option Value → zHP → Prop}  : zWP (d + 1) 152 0 [some (.ref 127), some (.int i1), some (.int i2)] [] (ia, la, zRA pl dr cp cw rp) K = (if (ia 127 26) = 0 then zWM d 144 [.ref 127, .int (6 : Int32)] (ia, la, zRA pl dr cp cw rp) (zK (d + 1) 152 20 [some (.ref 127), some (.int i1), some (.int i2)] [.int (64 : Int32), .ref 143] K) else K none (ia, la, zRA pl dr cp cw rp)) := by
  refine (Q_aload_n zm_152 (Or.inl (by decide)) D152_0 rfl).trans ?_
  refine (Q_getI zm_152 (Or.inl (by decide)) D152_1 zf_10_205 (Or.inl zs_10_26) zk_127.1).trans ?_
  refine (Q_if_eq (tgt := 8) zm_152 (Or.inl (by decide)) D152_4 (by decide)).trans ?_
  refine zif_c (fun h0_ => ?_) (fun h0_ => ?_)
  · refine (Q_aload_n zm_152 (Or.inl (by decide)) D152_8 rfl).trans ?_
    refine (Q_getR (q := 143) zm_152 (Or.inl (by decide)) D152_9 zf_10_55 zs_10_17 zk_127.1 rfl).trans ?_
    refine (Q_bipush (v := 64) zm_152 (Or.inl (by decide)) D152_12 (by decide)).trans ?_
    refine (Q_aload_n zm_152 (Or.inl (by decide)) D152_14 rfl).trans ?_
    refine (Q_bipush (v := 6) zm_152 (Or.inl (by decide)) D152_15 (by decide)).trans ?_
    exact Q_callv (as := [.int (6 : Int32)]) (b := 127) (rest := [.int (64 : Int32), .ref 143]) zm_152 (Or.inl (by decide)) D152_17 zc_10_221 rfl zk_127.1 (by decide) (by decide +kernel) (by decide) (by simp [zcat, Value.category]) zm_144 rfl
  · exact Q_return zm_152 (Or.inl (by decide)) D152_7 rfl

theorem b152_20 {d : Nat} {i1 : Int32} {i2 : Int32} {s1 : Int32} {s2 : Int32} {ia : Nat → Nat → Int32} {la : Nat → Nat → Int64} {pl dr : Nat} {cp : Option Nat} {cw : Option Nat} {rp : Option Nat} {K : Option Value → zHP → Prop}  : zWP (d + 1) 152 20 [some (.ref 127), some (.int i1), some (.int i2)] [.int s2, .int s1, .ref 143] (ia, la, zRA pl dr cp cw rp) K = (vp_in (s1 + s2) 128 ∧ zWM d 144 [.ref 127, .int (6 : Int32)] ((zu ia 143 ((s1 + s2)).toNatClampNeg i1), la, zRA pl dr cp cw rp) (zK (d + 1) 152 35 [some (.ref 127), some (.int i1), some (.int i2)] [.int (64 : Int32), .ref 144] K)) := by
  refine (Q_iadd zm_152 (Or.inl (by decide)) D152_20).trans ?_
  refine (Q_iload_n zm_152 (Or.inl (by decide)) D152_21 rfl).trans ?_
  refine (Q_iastore zm_152 (Or.inl (by decide)) D152_22 zk_143.1 zk_143.2).trans ?_
  refine zand_c (fun h0_ => ?_)
  refine (Q_aload_n zm_152 (Or.inl (by decide)) D152_23 rfl).trans ?_
  refine (Q_getR (q := 144) zm_152 (Or.inl (by decide)) D152_24 zf_10_58 zs_10_18 zk_127.1 rfl).trans ?_
  refine (Q_bipush (v := 64) zm_152 (Or.inl (by decide)) D152_27 (by decide)).trans ?_
  refine (Q_aload_n zm_152 (Or.inl (by decide)) D152_29 rfl).trans ?_
  refine (Q_bipush (v := 6) zm_152 (Or.inl (by decide)) D152_30 (by decide)).trans ?_
  exact Q_callv (as := [.int (6 : Int32)]) (b := 127) (rest := [.int (64 : Int32), .ref 144]) zm_152 (Or.inl (by decide)) D152_32 zc_10_221 rfl zk_127.1 (by decide) (by decide +kernel) (by decide) (by simp [zcat, Value.category]) zm_144 rfl

theorem b152_35 {d : Nat} {i1 : Int32} {i2 : Int32} {s1 : Int32} {s2 : Int32} {ia : Nat → Nat → Int32} {la : Nat → Nat → Int64} {pl dr : Nat} {cp : Option Nat} {cw : Option Nat} {rp : Option Nat} {K : Option Value → zHP → Prop}  : zWP (d + 1) 152 35 [some (.ref 127), some (.int i1), some (.int i2)] [.int s2, .int s1, .ref 144] (ia, la, zRA pl dr cp cw rp) K = (vp_in (s1 + s2) 128 ∧ zWM d 144 [.ref 127, .int (6 : Int32)] ((zu ia 144 ((s1 + s2)).toNatClampNeg i2), la, zRA pl dr cp cw rp) (zK (d + 1) 152 47 [some (.ref 127), some (.int i1), some (.int i2)] [.int (6 : Int32), .ref 127] K)) := by
  refine (Q_iadd zm_152 (Or.inl (by decide)) D152_35).trans ?_
  refine (Q_iload_n zm_152 (Or.inl (by decide)) D152_36 rfl).trans ?_
  refine (Q_iastore zm_152 (Or.inl (by decide)) D152_37 zk_144.1 zk_144.2).trans ?_
  refine zand_c (fun h0_ => ?_)
  refine (Q_aload_n zm_152 (Or.inl (by decide)) D152_38 rfl).trans ?_
  refine (Q_bipush (v := 6) zm_152 (Or.inl (by decide)) D152_39 (by decide)).trans ?_
  refine (Q_aload_n zm_152 (Or.inl (by decide)) D152_41 rfl).trans ?_
  refine (Q_bipush (v := 6) zm_152 (Or.inl (by decide)) D152_42 (by decide)).trans ?_
  exact Q_callv (as := [.int (6 : Int32)]) (b := 127) (rest := [.int (6 : Int32), .ref 127]) zm_152 (Or.inl (by decide)) D152_44 zc_10_221 rfl zk_127.1 (by decide) (by decide +kernel) (by decide) (by simp [zcat, Value.category]) zm_144 rfl

theorem b152_47 {d : Nat} {i1 : Int32} {i2 : Int32} {s1 : Int32} {s2 : Int32} {ia : Nat → Nat → Int32} {la : Nat → Nat → Int64} {pl dr : Nat} {cp : Option Nat} {cw : Option Nat} {rp : Option Nat} {K : Option Value → zHP → Prop}  : zWP (d + 1) 152 47 [some (.ref 127), some (.int i1), some (.int i2)] [.int s2, .int s1, .ref 127] (ia, la, zRA pl dr cp cw rp) K = zWM d 145 [.ref 127, .int s1, .int (s2 + (1 : Int32))] (ia, la, zRA pl dr cp cw rp) (zK (d + 1) 152 52 [some (.ref 127), some (.int i1), some (.int i2)] [] K) := by
  refine (Q_iconst (v := 1) zm_152 (Or.inl (by decide)) D152_47 (by decide)).trans ?_
  refine (Q_iadd zm_152 (Or.inl (by decide)) D152_48).trans ?_
  exact Q_callv (as := [.int s1, .int (s2 + (1 : Int32))]) (b := 127) (rest := []) zm_152 (Or.inl (by decide)) D152_49 zc_10_245 rfl zk_127.1 (by decide) (by decide +kernel) (by decide) (by simp [zcat, Value.category]) zm_145 rfl

theorem b152_52 {d : Nat} {i1 : Int32} {i2 : Int32} {ia : Nat → Nat → Int32} {la : Nat → Nat → Int64} {pl dr : Nat} {cp : Option Nat} {cw : Option Nat} {rp : Option Nat} {K : Option Value → zHP → Prop}  : zWP d 152 52 [some (.ref 127), some (.int i1), some (.int i2)] [] (ia, la, zRA pl dr cp cw rp) K = K none (ia, la, zRA pl dr cp cw rp) := by
  exact Q_return zm_152 (Or.inl (by decide)) D152_52 rfl

/-! HandsLetModel.knot()V -/
theorem D153_0 : decode prog_12_method_27_code 0 = .ok (.aload_n 0, 1) := by decide +kernel
theorem D153_1 : decode prog_12_method_27_code 1 = .ok (.getfield 205, 3) := by decide +kernel
theorem D153_4 : decode prog_12_method_27_code 4 = .ok (.ifCond .eq 4, 3) := by decide +kernel
theorem D153_7 : decode prog_12_method_27_code 7 = .ok (.return_, 1) := by decide +kernel
theorem D153_8 : decode prog_12_method_27_code 8 = .ok (.aload_n 0, 1) := by decide +kernel
theorem D153_9 : decode prog_12_method_27_code 9 = .ok (.getfield 267, 3) := by decide +kernel
theorem D153_12 : decode prog_12_method_27_code 12 = .ok (.bipush 64, 2) := by decide +kernel
theorem D153_14 : decode prog_12_method_27_code 14 = .ok (.if_icmp .ne 11, 3) := by decide +kernel
theorem D153_17 : decode prog_12_method_27_code 17 = .ok (.aload_n 0, 1) := by decide +kernel
theorem D153_18 : decode prog_12_method_27_code 18 = .ok (.iconst 2, 1) := by decide +kernel
theorem D153_19 : decode prog_12_method_27_code 19 = .ok (.invokevirtual 214, 3) := by decide +kernel
theorem D153_22 : decode prog_12_method_27_code 22 = .ok (.goto 13, 3) := by decide +kernel
theorem D153_25 : decode prog_12_method_27_code 25 = .ok (.aload_n 0, 1) := by decide +kernel
theorem D153_26 : decode prog_12_method_27_code 26 = .ok (.dup, 1) := by decide +kernel
theorem D153_27 : decode prog_12_method_27_code 27 = .ok (.getfield 267, 3) := by decide +kernel
theorem D153_30 : decode prog_12_method_27_code 30 = .ok (.iconst 1, 1) := by decide +kernel
theorem D153_31 : decode prog_12_method_27_code 31 = .ok (.iadd, 1) := by decide +kernel
theorem D153_32 : decode prog_12_method_27_code 32 = .ok (.putfield 267, 3) := by decide +kernel
theorem D153_35 : decode prog_12_method_27_code 35 = .ok (.return_, 1) := by decide +kernel

theorem b153_0 {d : Nat}  {ia : Nat → Nat → Int32} {la : Nat → Nat → Int64} {pl dr : Nat} {cp : Option Nat} {cw : Option Nat} {rp : Option Nat} {K : Option Value → zHP → Prop}  : zWP (d + 1) 153 0 [some (.ref 127)] [] (ia, la, zRA pl dr cp cw rp) K = (if (ia 127 26) = 0 then (if ¬ (ia 127 31) = (64 : Int32) then K none ((zu ia 127 31 ((ia 127 31) + (1 : Int32))), la, zRA pl dr cp cw rp) else zWM d 137 [.ref 127, .int (2 : Int32)] (ia, la, zRA pl dr cp cw rp) (zK (d + 1) 153 22 [some (.ref 127)] [] K)) else K none (ia, la, zRA pl dr cp cw rp)) := by
  refine (Q_aload_n zm_153 (Or.inl (by decide)) D153_0 rfl).trans ?_
  refine (Q_getI zm_153 (Or.inl (by decide)) D153_1 zf_10_205 (Or.inl zs_10_26) zk_127.1).trans ?_
  refine (Q_if_eq (tgt := 8) zm_153 (Or.inl (by decide)) D153_4 (by decide)).trans ?_
  refine zif_c (fun h0_ => ?_) (fun h0_ => ?_)
  · refine (Q_aload_n zm_153 (Or.inl (by decide)) D153_8 rfl).trans ?_
    refine (Q_getI zm_153 (Or.inl (by decide)) D153_9 zf_10_267 (Or.inl zs_10_31) zk_127.1).trans ?_
    refine (Q_bipush (v := 64) zm_153 (Or.inl (by decide)) D153_12 (by decide)).trans ?_
    refine (Q_ic_ne (tgt := 25) zm_153 (Or.inl (by decide)) D153_14 (by decide)).trans ?_
    refine zif_c (fun h1_ => ?_) (fun h1_ => ?_)
    · refine (Q_aload_n zm_153 (Or.inl (by decide)) D153_25 rfl).trans ?_
      refine (Q_dup zm_153 (Or.inl (by decide)) D153_26 rfl).trans ?_
      refine (Q_getI zm_153 (Or.inl (by decide)) D153_27 zf_10_267 (Or.inl zs_10_31) zk_127.1).trans ?_
      refine (Q_iconst (v := 1) zm_153 (Or.inl (by decide)) D153_30 (by decide)).trans ?_
      refine (Q_iadd zm_153 (Or.inl (by decide)) D153_31).trans ?_
      refine (Q_putI zm_153 (Or.inl (by decide)) D153_32 zf_10_267 zs_10_31 rfl zk_127.1).trans ?_
      exact Q_return zm_153 (Or.inl (by decide)) D153_35 rfl
    · refine (Q_aload_n zm_153 (Or.inl (by decide)) D153_17 rfl).trans ?_
      refine (Q_iconst (v := 2) zm_153 (Or.inl (by decide)) D153_18 (by decide)).trans ?_
      exact Q_callv (as := [.int (2 : Int32)]) (b := 127) (rest := []) zm_153 (Or.inl (by decide)) D153_19 zc_10_214 rfl zk_127.1 (by decide) (by decide +kernel) (by decide) (by simp [zcat, Value.category]) zm_137 rfl
  · exact Q_return zm_153 (Or.inl (by decide)) D153_7 rfl

theorem b153_22 {d : Nat}  {ia : Nat → Nat → Int32} {la : Nat → Nat → Int64} {pl dr : Nat} {cp : Option Nat} {cw : Option Nat} {rp : Option Nat} {K : Option Value → zHP → Prop}  : zWP d 153 22 [some (.ref 127)] [] (ia, la, zRA pl dr cp cw rp) K = K none (ia, la, zRA pl dr cp cw rp) := by
  refine (Q_goto (tgt := 35) zm_153 (Or.inl (by decide)) D153_22 (by decide)).trans ?_
  exact Q_return zm_153 (Or.inl (by decide)) D153_35 rfl

/-! HandsLetModel.expression()V -/
theorem D154_0 : decode prog_12_method_28_code 0 = .ok (.aload_n 0, 1) := by decide +kernel
theorem D154_1 : decode prog_12_method_28_code 1 = .ok (.invokevirtual 270, 3) := by decide +kernel
theorem D154_4 : decode prog_12_method_28_code 4 = .ok (.aload_n 0, 1) := by decide +kernel
theorem D154_5 : decode prog_12_method_28_code 5 = .ok (.bipush 10, 2) := by decide +kernel
theorem D154_7 : decode prog_12_method_28_code 7 = .ok (.invokevirtual 273, 3) := by decide +kernel
theorem D154_10 : decode prog_12_method_28_code 10 = .ok (.ifCond .eq 26, 3) := by decide +kernel
theorem D154_13 : decode prog_12_method_28_code 13 = .ok (.aload_n 0, 1) := by decide +kernel
theorem D154_14 : decode prog_12_method_28_code 14 = .ok (.invokevirtual 276, 3) := by decide +kernel
theorem D154_17 : decode prog_12_method_28_code 17 = .ok (.aload_n 0, 1) := by decide +kernel
theorem D154_18 : decode prog_12_method_28_code 18 = .ok (.invokevirtual 228, 3) := by decide +kernel
theorem D154_21 : decode prog_12_method_28_code 21 = .ok (.aload_n 0, 1) := by decide +kernel
theorem D154_22 : decode prog_12_method_28_code 22 = .ok (.invokevirtual 270, 3) := by decide +kernel
theorem D154_25 : decode prog_12_method_28_code 25 = .ok (.aload_n 0, 1) := by decide +kernel
theorem D154_26 : decode prog_12_method_28_code 26 = .ok (.iconst 2, 1) := by decide +kernel
theorem D154_27 : decode prog_12_method_28_code 27 = .ok (.sipush 262, 3) := by decide +kernel
theorem D154_30 : decode prog_12_method_28_code 30 = .ok (.invokevirtual 279, 3) := by decide +kernel
theorem D154_33 : decode prog_12_method_28_code 33 = .ok (.goto (-29), 3) := by decide +kernel
theorem D154_36 : decode prog_12_method_28_code 36 = .ok (.return_, 1) := by decide +kernel

theorem b154_0 {d : Nat}  {ia : Nat → Nat → Int32} {la : Nat → Nat → Int64} {pl dr : Nat} {cp : Option Nat} {cw : Option Nat} {rp : Option Nat} {K : Option Value → zHP → Prop}  : zWP (d + 1) 154 0 [some (.ref 127)] [] (ia, la, zRA pl dr cp cw rp) K = zWM d 155 [.ref 127] (ia, la, zRA pl dr cp cw rp) (zK (d + 1) 154 4 [some (.ref 127)] [] K) := by
  refine (Q_aload_n zm_154 (Or.inl (by decide)) D154_0 rfl).trans ?_
  exact Q_callv (as := []) (b := 127) (rest := []) zm_154 (Or.inl (by decide)) D154_1 zc_10_270 rfl zk_127.1 (by decide) (by decide +kernel) (by decide) (by simp [zcat, Value.category]) zm_155 rfl

theorem b154_4 {d : Nat}  {ia : Nat → Nat → Int32} {la : Nat → Nat → Int64} {pl dr : Nat} {cp : Option Nat} {cw : Option Nat} {rp : Option Nat} {K : Option Value → zHP → Prop}  : zWP (d + 1) 154 4 [some (.ref 127)] [] (ia, la, zRA pl dr cp cw rp) K = zWM d 138 [.ref 127, .int (10 : Int32)] (ia, la, zRA pl dr cp cw rp) (zK (d + 1) 154 10 [some (.ref 127)] [] K) := by
  refine (Q_aload_n zm_154 (Or.inl (by decide)) D154_4 rfl).trans ?_
  refine (Q_bipush (v := 10) zm_154 (Or.inl (by decide)) D154_5 (by decide)).trans ?_
  exact Q_callv (as := [.int (10 : Int32)]) (b := 127) (rest := []) zm_154 (Or.inl (by decide)) D154_7 zc_10_273 rfl zk_127.1 (by decide) (by decide +kernel) (by decide) (by simp [zcat, Value.category]) zm_138 rfl

theorem b154_10 {d : Nat} {s0 : Int32} {ia : Nat → Nat → Int32} {la : Nat → Nat → Int64} {pl dr : Nat} {cp : Option Nat} {cw : Option Nat} {rp : Option Nat} {K : Option Value → zHP → Prop}  : zWP (d + 1) 154 10 [some (.ref 127)] [.int s0] (ia, la, zRA pl dr cp cw rp) K = (if s0 = 0 then K none (ia, la, zRA pl dr cp cw rp) else zWM d 153 [.ref 127] (ia, la, zRA pl dr cp cw rp) (zK (d + 1) 154 17 [some (.ref 127)] [] K)) := by
  refine (Q_if_eq (tgt := 36) zm_154 (Or.inl (by decide)) D154_10 (by decide)).trans ?_
  refine zif_c (fun h0_ => ?_) (fun h0_ => ?_)
  · exact Q_return zm_154 (Or.inl (by decide)) D154_36 rfl
  · refine (Q_aload_n zm_154 (Or.inl (by decide)) D154_13 rfl).trans ?_
    exact Q_callv (as := []) (b := 127) (rest := []) zm_154 (Or.inl (by decide)) D154_14 zc_10_276 rfl zk_127.1 (by decide) (by decide +kernel) (by decide) (by simp [zcat, Value.category]) zm_153 rfl

theorem b154_17 {d : Nat}  {ia : Nat → Nat → Int32} {la : Nat → Nat → Int64} {pl dr : Nat} {cp : Option Nat} {cw : Option Nat} {rp : Option Nat} {K : Option Value → zHP → Prop}  : zWP (d + 1) 154 17 [some (.ref 127)] [] (ia, la, zRA pl dr cp cw rp) K = zWM d 140 [.ref 127] (ia, la, zRA pl dr cp cw rp) (zK (d + 1) 154 21 [some (.ref 127)] [] K) := by
  refine (Q_aload_n zm_154 (Or.inl (by decide)) D154_17 rfl).trans ?_
  exact Q_callv (as := []) (b := 127) (rest := []) zm_154 (Or.inl (by decide)) D154_18 zc_10_228 rfl zk_127.1 (by decide) (by decide +kernel) (by decide) (by simp [zcat, Value.category]) zm_140 rfl

theorem b154_21 {d : Nat}  {ia : Nat → Nat → Int32} {la : Nat → Nat → Int64} {pl dr : Nat} {cp : Option Nat} {cw : Option Nat} {rp : Option Nat} {K : Option Value → zHP → Prop}  : zWP (d + 1) 154 21 [some (.ref 127)] [] (ia, la, zRA pl dr cp cw rp) K = zWM d 155 [.ref 127] (ia, la, zRA pl dr cp cw rp) (zK (d + 1) 154 25 [some (.ref 127)] [] K) := by
  refine (Q_aload_n zm_154 (Or.inl (by decide)) D154_21 rfl).trans ?_
  exact Q_callv (as := []) (b := 127) (rest := []) zm_154 (Or.inl (by decide)) D154_22 zc_10_270 rfl zk_127.1 (by decide) (by decide +kernel) (by decide) (by simp [zcat, Value.category]) zm_155 rfl

theorem b154_25 {d : Nat}  {ia : Nat → Nat → Int32} {la : Nat → Nat → Int64} {pl dr : Nat} {cp : Option Nat} {cw : Option Nat} {rp : Option Nat} {K : Option Value → zHP → Prop}  : zWP (d + 1) 154 25 [some (.ref 127)] [] (ia, la, zRA pl dr cp cw rp) K = zWM d 152 [.ref 127, .int (2 : Int32), .int (262 : Int32)] (ia, la, zRA pl dr cp cw rp) (zK (d + 1) 154 33 [some (.ref 127)] [] K) := by
  refine (Q_aload_n zm_154 (Or.inl (by decide)) D154_25 rfl).trans ?_
  refine (Q_iconst (v := 2) zm_154 (Or.inl (by decide)) D154_26 (by decide)).trans ?_
  refine (Q_sipush (v := 262) zm_154 (Or.inl (by decide)) D154_27 (by decide)).trans ?_
  exact Q_callv (as := [.int (2 : Int32), .int (262 : Int32)]) (b := 127) (rest := []) zm_154 (Or.inl (by decide)) D154_30 zc_10_279 rfl zk_127.1 (by decide) (by decide +kernel) (by decide) (by simp [zcat, Value.category]) zm_152 rfl

theorem b154_33 {d : Nat}  {ia : Nat → Nat → Int32} {la : Nat → Nat → Int64} {pl dr : Nat} {cp : Option Nat} {cw : Option Nat} {rp : Option Nat} {K : Option Value → zHP → Prop}  : zWP d 154 33 [some (.ref 127)] [] (ia, la, zRA pl dr cp cw rp) K = zWP d 154 4 [some (.ref 127)] [] (ia, la, zRA pl dr cp cw rp) K := by
  refine (Q_goto (tgt := 4) zm_154 (Or.inl (by decide)) D154_33 (by decide)).trans ?_
  rfl

/-! HandsLetModel.conjunction()V -/
theorem D155_0 : decode prog_12_method_29_code 0 = .ok (.aload_n 0, 1) := by decide +kernel
theorem D155_1 : decode prog_12_method_29_code 1 = .ok (.invokevirtual 282, 3) := by decide +kernel
theorem D155_4 : decode prog_12_method_29_code 4 = .ok (.aload_n 0, 1) := by decide +kernel
theorem D155_5 : decode prog_12_method_29_code 5 = .ok (.bipush 11, 2) := by decide +kernel
theorem D155_7 : decode prog_12_method_29_code 7 = .ok (.invokevirtual 273, 3) := by decide +kernel
theorem D155_10 : decode prog_12_method_29_code 10 = .ok (.ifCond .eq 26, 3) := by decide +kernel
theorem D155_13 : decode prog_12_method_29_code 13 = .ok (.aload_n 0, 1) := by decide +kernel
theorem D155_14 : decode prog_12_method_29_code 14 = .ok (.invokevirtual 276, 3) := by decide +kernel
theorem D155_17 : decode prog_12_method_29_code 17 = .ok (.aload_n 0, 1) := by decide +kernel
theorem D155_18 : decode prog_12_method_29_code 18 = .ok (.invokevirtual 228, 3) := by decide +kernel
theorem D155_21 : decode prog_12_method_29_code 21 = .ok (.aload_n 0, 1) := by decide +kernel
theorem D155_22 : decode prog_12_method_29_code 22 = .ok (.invokevirtual 282, 3) := by decide +kernel
theorem D155_25 : decode prog_12_method_29_code 25 = .ok (.aload_n 0, 1) := by decide +kernel
theorem D155_26 : decode prog_12_method_29_code 26 = .ok (.iconst 2, 1) := by decide +kernel
theorem D155_27 : decode prog_12_method_29_code 27 = .ok (.sipush 261, 3) := by decide +kernel
theorem D155_30 : decode prog_12_method_29_code 30 = .ok (.invokevirtual 279, 3) := by decide +kernel
theorem D155_33 : decode prog_12_method_29_code 33 = .ok (.goto (-29), 3) := by decide +kernel
theorem D155_36 : decode prog_12_method_29_code 36 = .ok (.return_, 1) := by decide +kernel

theorem b155_0 {d : Nat}  {ia : Nat → Nat → Int32} {la : Nat → Nat → Int64} {pl dr : Nat} {cp : Option Nat} {cw : Option Nat} {rp : Option Nat} {K : Option Value → zHP → Prop}  : zWP (d + 1) 155 0 [some (.ref 127)] [] (ia, la, zRA pl dr cp cw rp) K = zWM d 156 [.ref 127] (ia, la, zRA pl dr cp cw rp) (zK (d + 1) 155 4 [some (.ref 127)] [] K) := by
  refine (Q_aload_n zm_155 (Or.inl (by decide)) D155_0 rfl).trans ?_
  exact Q_callv (as := []) (b := 127) (rest := []) zm_155 (Or.inl (by decide)) D155_1 zc_10_282 rfl zk_127.1 (by decide) (by decide +kernel) (by decide) (by simp [zcat, Value.category]) zm_156 rfl

theorem b155_4 {d : Nat}  {ia : Nat → Nat → Int32} {la : Nat → Nat → Int64} {pl dr : Nat} {cp : Option Nat} {cw : Option Nat} {rp : Option Nat} {K : Option Value → zHP → Prop}  : zWP (d + 1) 155 4 [some (.ref 127)] [] (ia, la, zRA pl dr cp cw rp) K = zWM d 138 [.ref 127, .int (11 : Int32)] (ia, la, zRA pl dr cp cw rp) (zK (d + 1) 155 10 [some (.ref 127)] [] K) := by
  refine (Q_aload_n zm_155 (Or.inl (by decide)) D155_4 rfl).trans ?_
  refine (Q_bipush (v := 11) zm_155 (Or.inl (by decide)) D155_5 (by decide)).trans ?_
  exact Q_callv (as := [.int (11 : Int32)]) (b := 127) (rest := []) zm_155 (Or.inl (by decide)) D155_7 zc_10_273 rfl zk_127.1 (by decide) (by decide +kernel) (by decide) (by simp [zcat, Value.category]) zm_138 rfl

theorem b155_10 {d : Nat} {s0 : Int32} {ia : Nat → Nat → Int32} {la : Nat → Nat → Int64} {pl dr : Nat} {cp : Option Nat} {cw : Option Nat} {rp : Option Nat} {K : Option Value → zHP → Prop}  : zWP (d + 1) 155 10 [some (.ref 127)] [.int s0] (ia, la, zRA pl dr cp cw rp) K = (if s0 = 0 then K none (ia, la, zRA pl dr cp cw rp) else zWM d 153 [.ref 127] (ia, la, zRA pl dr cp cw rp) (zK (d + 1) 155 17 [some (.ref 127)] [] K)) := by
  refine (Q_if_eq (tgt := 36) zm_155 (Or.inl (by decide)) D155_10 (by decide)).trans ?_
  refine zif_c (fun h0_ => ?_) (fun h0_ => ?_)
  · exact Q_return zm_155 (Or.inl (by decide)) D155_36 rfl
  · refine (Q_aload_n zm_155 (Or.inl (by decide)) D155_13 rfl).trans ?_
    exact Q_callv (as := []) (b := 127) (rest := []) zm_155 (Or.inl (by decide)) D155_14 zc_10_276 rfl zk_127.1 (by decide) (by decide +kernel) (by decide) (by simp [zcat, Value.category]) zm_153 rfl

theorem b155_17 {d : Nat}  {ia : Nat → Nat → Int32} {la : Nat → Nat → Int64} {pl dr : Nat} {cp : Option Nat} {cw : Option Nat} {rp : Option Nat} {K : Option Value → zHP → Prop}  : zWP (d + 1) 155 17 [some (.ref 127)] [] (ia, la, zRA pl dr cp cw rp) K = zWM d 140 [.ref 127] (ia, la, zRA pl dr cp cw rp) (zK (d + 1) 155 21 [some (.ref 127)] [] K) := by
  refine (Q_aload_n zm_155 (Or.inl (by decide)) D155_17 rfl).trans ?_
  exact Q_callv (as := []) (b := 127) (rest := []) zm_155 (Or.inl (by decide)) D155_18 zc_10_228 rfl zk_127.1 (by decide) (by decide +kernel) (by decide) (by simp [zcat, Value.category]) zm_140 rfl

theorem b155_21 {d : Nat}  {ia : Nat → Nat → Int32} {la : Nat → Nat → Int64} {pl dr : Nat} {cp : Option Nat} {cw : Option Nat} {rp : Option Nat} {K : Option Value → zHP → Prop}  : zWP (d + 1) 155 21 [some (.ref 127)] [] (ia, la, zRA pl dr cp cw rp) K = zWM d 156 [.ref 127] (ia, la, zRA pl dr cp cw rp) (zK (d + 1) 155 25 [some (.ref 127)] [] K) := by
  refine (Q_aload_n zm_155 (Or.inl (by decide)) D155_21 rfl).trans ?_
  exact Q_callv (as := []) (b := 127) (rest := []) zm_155 (Or.inl (by decide)) D155_22 zc_10_282 rfl zk_127.1 (by decide) (by decide +kernel) (by decide) (by simp [zcat, Value.category]) zm_156 rfl

theorem b155_25 {d : Nat}  {ia : Nat → Nat → Int32} {la : Nat → Nat → Int64} {pl dr : Nat} {cp : Option Nat} {cw : Option Nat} {rp : Option Nat} {K : Option Value → zHP → Prop}  : zWP (d + 1) 155 25 [some (.ref 127)] [] (ia, la, zRA pl dr cp cw rp) K = zWM d 152 [.ref 127, .int (2 : Int32), .int (261 : Int32)] (ia, la, zRA pl dr cp cw rp) (zK (d + 1) 155 33 [some (.ref 127)] [] K) := by
  refine (Q_aload_n zm_155 (Or.inl (by decide)) D155_25 rfl).trans ?_
  refine (Q_iconst (v := 2) zm_155 (Or.inl (by decide)) D155_26 (by decide)).trans ?_
  refine (Q_sipush (v := 261) zm_155 (Or.inl (by decide)) D155_27 (by decide)).trans ?_
  exact Q_callv (as := [.int (2 : Int32), .int (261 : Int32)]) (b := 127) (rest := []) zm_155 (Or.inl (by decide)) D155_30 zc_10_279 rfl zk_127.1 (by decide) (by decide +kernel) (by decide) (by simp [zcat, Value.category]) zm_152 rfl

theorem b155_33 {d : Nat}  {ia : Nat → Nat → Int32} {la : Nat → Nat → Int64} {pl dr : Nat} {cp : Option Nat} {cw : Option Nat} {rp : Option Nat} {K : Option Value → zHP → Prop}  : zWP d 155 33 [some (.ref 127)] [] (ia, la, zRA pl dr cp cw rp) K = zWP d 155 4 [some (.ref 127)] [] (ia, la, zRA pl dr cp cw rp) K := by
  refine (Q_goto (tgt := 4) zm_155 (Or.inl (by decide)) D155_33 (by decide)).trans ?_
  rfl

/-! HandsLetModel.negation()V -/
theorem D156_0 : decode prog_12_method_30_code 0 = .ok (.aload_n 0, 1) := by decide +kernel
theorem D156_1 : decode prog_12_method_30_code 1 = .ok (.bipush 12, 2) := by decide +kernel
theorem D156_3 : decode prog_12_method_30_code 3 = .ok (.invokevirtual 273, 3) := by decide +kernel
theorem D156_6 : decode prog_12_method_30_code 6 = .ok (.ifCond .eq 24, 3) := by decide +kernel
theorem D156_9 : decode prog_12_method_30_code 9 = .ok (.aload_n 0, 1) := by decide +kernel
theorem D156_10 : decode prog_12_method_30_code 10 = .ok (.invokevirtual 276, 3) := by decide +kernel
theorem D156_13 : decode prog_12_method_30_code 13 = .ok (.aload_n 0, 1) := by decide +kernel
theorem D156_14 : decode prog_12_method_30_code 14 = .ok (.invokevirtual 228, 3) := by decide +kernel
theorem D156_17 : decode prog_12_method_30_code 17 = .ok (.aload_n 0, 1) := by decide +kernel
theorem D156_18 : decode prog_12_method_30_code 18 = .ok (.invokevirtual 282, 3) := by decide +kernel
theorem D156_21 : decode prog_12_method_30_code 21 = .ok (.aload_n 0, 1) := by decide +kernel
theorem D156_22 : decode prog_12_method_30_code 22 = .ok (.iconst 2, 1) := by decide +kernel
theorem D156_23 : decode prog_12_method_30_code 23 = .ok (.sipush 260, 3) := by decide +kernel
theorem D156_26 : decode prog_12_method_30_code 26 = .ok (.invokevirtual 279, 3) := by decide +kernel
theorem D156_29 : decode prog_12_method_30_code 29 = .ok (.return_, 1) := by decide +kernel
theorem D156_30 : decode prog_12_method_30_code 30 = .ok (.aload_n 0, 1) := by decide +kernel
theorem D156_31 : decode prog_12_method_30_code 31 = .ok (.invokevirtual 285, 3) := by decide +kernel
theorem D156_34 : decode prog_12_method_30_code 34 = .ok (.aload_n 0, 1) := by decide +kernel
theorem D156_35 : decode prog_12_method_30_code 35 = .ok (.getfield 205, 3) := by decide +kernel
theorem D156_38 : decode prog_12_method_30_code 38 = .ok (.ifCond .ne 48, 3) := by decide +kernel
theorem D156_41 : decode prog_12_method_30_code 41 = .ok (.aload_n 0, 1) := by decide +kernel
theorem D156_42 : decode prog_12_method_30_code 42 = .ok (.getfield 170, 3) := by decide +kernel
theorem D156_45 : decode prog_12_method_30_code 45 = .ok (.iconst 3, 1) := by decide +kernel
theorem D156_46 : decode prog_12_method_30_code 46 = .ok (.if_icmp .ne 40, 3) := by decide +kernel
theorem D156_49 : decode prog_12_method_30_code 49 = .ok (.aload_n 0, 1) := by decide +kernel
theorem D156_50 : decode prog_12_method_30_code 50 = .ok (.getfield 180, 3) := by decide +kernel
theorem D156_53 : decode prog_12_method_30_code 53 = .ok (.bipush 60, 2) := by decide +kernel
theorem D156_55 : decode prog_12_method_30_code 55 = .ok (.if_icmp .eq 32, 3) := by decide +kernel
theorem D156_58 : decode prog_12_method_30_code 58 = .ok (.aload_n 0, 1) := by decide +kernel
theorem D156_59 : decode prog_12_method_30_code 59 = .ok (.getfield 180, 3) := by decide +kernel
theorem D156_62 : decode prog_12_method_30_code 62 = .ok (.bipush 62, 2) := by decide +kernel
theorem D156_64 : decode prog_12_method_30_code 64 = .ok (.if_icmp .eq 23, 3) := by decide +kernel
theorem D156_67 : decode prog_12_method_30_code 67 = .ok (.aload_n 0, 1) := by decide +kernel
theorem D156_68 : decode prog_12_method_30_code 68 = .ok (.getfield 180, 3) := by decide +kernel
theorem D156_71 : decode prog_12_method_30_code 71 = .ok (.bipush 61, 2) := by decide +kernel
theorem D156_73 : decode prog_12_method_30_code 73 = .ok (.if_icmp .eq 14, 3) := by decide +kernel
theorem D156_76 : decode prog_12_method_30_code 76 = .ok (.aload_n 0, 1) := by decide +kernel
theorem D156_77 : decode prog_12_method_30_code 77 = .ok (.getfield 180, 3) := by decide +kernel
theorem D156_80 : decode prog_12_method_30_code 80 = .ok (.sipush 256, 3) := by decide +kernel
theorem D156_83 : decode prog_12_method_30_code 83 = .ok (.if_icmp .ge 4, 3) := by decide +kernel
theorem D156_86 : decode prog_12_method_30_code 86 = .ok (.return_, 1) := by decide +kernel
theorem D156_87 : decode prog_12_method_30_code 87 = .ok (.aload_n 0, 1) := by decide +kernel
theorem D156_88 : decode prog_12_method_30_code 88 = .ok (.getfield 180, 3) := by decide +kernel
theorem D156_91 : decode prog_12_method_30_code 91 = .ok (.istore_n 1, 1) := by decide +kernel
theorem D156_92 : decode prog_12_method_30_code 92 = .ok (.aload_n 0, 1) := by decide +kernel
theorem D156_93 : decode prog_12_method_30_code 93 = .ok (.invokevirtual 276, 3) := by decide +kernel
theorem D156_96 : decode prog_12_method_30_code 96 = .ok (.aload_n 0, 1) := by decide +kernel
theorem D156_97 : decode prog_12_method_30_code 97 = .ok (.invokevirtual 228, 3) := by decide +kernel
theorem D156_100 : decode prog_12_method_30_code 100 = .ok (.aload_n 0, 1) := by decide +kernel
theorem D156_101 : decode prog_12_method_30_code 101 = .ok (.invokevirtual 285, 3) := by decide +kernel
theorem D156_104 : decode prog_12_method_30_code 104 = .ok (.aload_n 0, 1) := by decide +kernel
theorem D156_105 : decode prog_12_method_30_code 105 = .ok (.iconst 2, 1) := by decide +kernel
theorem D156_106 : decode prog_12_method_30_code 106 = .ok (.iload_n 1, 1) := by decide +kernel
theorem D156_107 : decode prog_12_method_30_code 107 = .ok (.invokevirtual 279, 3) := by decide +kernel
theorem D156_110 : decode prog_12_method_30_code 110 = .ok (.return_, 1) := by decide +kernel

theorem b156_0 {d : Nat}  {ia : Nat → Nat → Int32} {la : Nat → Nat → Int64} {pl dr : Nat} {cp : Option Nat} {cw : Option Nat} {rp : Option Nat} {K : Option Value → zHP → Prop}  : zWP (d + 1) 156 0 [some (.ref 127), none] [] (ia, la, zRA pl dr cp cw rp) K = zWM d 138 [.ref 127, .int (12 : Int32)] (ia, la, zRA pl dr cp cw rp) (zK (d + 1) 156 6 [some (.ref 127), none] [] K) := by
  refine (Q_aload_n zm_156 (Or.inl (by decide)) D156_0 rfl).trans ?_
  refine (Q_bipush (v := 12) zm_156 (Or.inl (by decide)) D156_1 (by decide)).trans ?_
  exact Q_callv (as := [.int (12 : Int32)]) (b := 127) (rest := []) zm_156 (Or.inl (by decide)) D156_3 zc_10_273 rfl zk_127.1 (by decide) (by decide +kernel) (by decide) (by simp [zcat, Value.category]) zm_138 rfl

theorem b156_6 {d : Nat} {s0 : Int32} {ia : Nat → Nat → Int32} {la : Nat → Nat → Int64} {pl dr : Nat} {cp : Option Nat} {cw : Option Nat} {rp : Option Nat} {K : Option Value → zHP → Prop}  : zWP (d + 1) 156 6 [some (.ref 127), none] [.int s0] (ia, la, zRA pl dr cp cw rp) K = (if s0 = 0 then zWM d 157 [.ref 127] (ia, la, zRA pl dr cp cw rp) (zK (d + 1) 156 34 [some (.ref 127), none] [] K) else zWM d 153 [.ref 127] (ia, la, zRA pl dr cp cw rp) (zK (d + 1) 156 13 [some (.ref 127), none] [] K)) := by
  refine (Q_if_eq (tgt := 30) zm_156 (Or.inl (by decide)) D156_6 (by decide)).trans ?_
  refine zif_c (fun h0_ => ?_) (fun h0_ => ?_)
  · refine (Q_aload_n zm_156 (Or.inl (by decide)) D156_30 rfl).trans ?_
    exact Q_callv (as := []) (b := 127) (rest := []) zm_156 (Or.inl (by decide)) D156_31 zc_10_285 rfl zk_127.1 (by decide) (by decide +kernel) (by decide) (by simp [zcat, Value.category]) zm_157 rfl
  · refine (Q_aload_n zm_156 (Or.inl (by decide)) D156_9 rfl).trans ?_
    exact Q_callv (as := []) (b := 127) (rest := []) zm_156 (Or.inl (by decide)) D156_10 zc_10_276 rfl zk_127.1 (by decide) (by decide +kernel) (by decide) (by simp [zcat, Value.category]) zm_153 rfl

theorem b156_34 {d : Nat}  {ia : Nat → Nat → Int32} {la : Nat → Nat → Int64} {pl dr : Nat} {cp : Option Nat} {cw : Option Nat} {rp : Option Nat} {K : Option Value → zHP → Prop}  : zWP (d + 1) 156 34 [some (.ref 127), none] [] (ia, la, zRA pl dr cp cw rp) K = (if ¬ (ia 127 26) = 0 then K none (ia, la, zRA pl dr cp cw rp) else (if ¬ (ia 127 24) = (3 : Int32) then K none (ia, la, zRA pl dr cp cw rp) else (if (ia 127 25) = (60 : Int32) then zWM d 153 [.ref 127] (ia, la, zRA pl dr cp cw rp) (zK (d + 1) 156 96 [some (.ref 127), some (.int (ia 127 25))] [] K) else (if (ia 127 25) = (62 : Int32) then zWM d 153 [.ref 127] (ia, la, zRA pl dr cp cw rp) (zK (d + 1) 156 96 [some (.ref 127), some (.int (ia 127 25))] [] K) else (if (ia 127 25) = (61 : Int32) then zWM d 153 [.ref 127] (ia, la, zRA pl dr cp cw rp) (zK (d + 1) 156 96 [some (.ref 127), some (.int (ia 127 25))] [] K) else (if (256 : Int32) ≤ (ia 127 25) then zWM d 153 [.ref 127] (ia, la, zRA pl dr cp cw rp) (zK (d + 1) 156 96 [some (.ref 127), some (.int (ia 127 25))] [] K) else K none (ia, la, zRA pl dr cp cw rp))))))) := by
  refine (Q_aload_n zm_156 (Or.inl (by decide)) D156_34 rfl).trans ?_
  refine (Q_getI zm_156 (Or.inl (by decide)) D156_35 zf_10_205 (Or.inl zs_10_26) zk_127.1).trans ?_
  refine (Q_if_ne (tgt := 86) zm_156 (Or.inl (by decide)) D156_38 (by decide)).trans ?_
  refine zif_c (fun h0_ => ?_) (fun h0_ => ?_)
  · exact Q_return zm_156 (Or.inl (by decide)) D156_86 rfl
  · refine (Q_aload_n zm_156 (Or.inl (by decide)) D156_41 rfl).trans ?_
    refine (Q_getI zm_156 (Or.inl (by decide)) D156_42 zf_10_170 (Or.inl zs_10_24) zk_127.1).trans ?_
    refine (Q_iconst (v := 3) zm_156 (Or.inl (by decide)) D156_45 (by decide)).trans ?_
    refine (Q_ic_ne (tgt := 86) zm_156 (Or.inl (by decide)) D156_46 (by decide)).trans ?_
    refine zif_c (fun h1_ => ?_) (fun h1_ => ?_)
    · exact Q_return zm_156 (Or.inl (by decide)) D156_86 rfl
    · refine (Q_aload_n zm_156 (Or.inl (by decide)) D156_49 rfl).trans ?_
      refine (Q_getI zm_156 (Or.inl (by decide)) D156_50 zf_10_180 (Or.inl zs_10_25) zk_127.1).trans ?_
      refine (Q_bipush (v := 60) zm_156 (Or.inl (by decide)) D156_53 (by decide)).trans ?_
      refine (Q_ic_eq (tgt := 87) zm_156 (Or.inl (by decide)) D156_55 (by decide)).trans ?_
      refine zif_c (fun h2_ => ?_) (fun h2_ => ?_)
      · refine (Q_aload_n zm_156 (Or.inl (by decide)) D156_87 rfl).trans ?_
        refine (Q_getI zm_156 (Or.inl (by decide)) D156_88 zf_10_180 (Or.inl zs_10_25) zk_127.1).trans ?_
        refine (Q_istore_n (ls' := [some (.ref 127), some (.int (ia 127 25))]) zm_156 (Or.inl (by decide)) D156_91 rfl (Nat.le_of_ble_eq_true rfl) rfl).trans ?_
        refine (Q_aload_n zm_156 (Or.inl (by decide)) D156_92 rfl).trans ?_
        exact Q_callv (as := []) (b := 127) (rest := []) zm_156 (Or.inl (by decide)) D156_93 zc_10_276 rfl zk_127.1 (by decide) (by decide +kernel) (by decide) (by simp [zcat, Value.category]) zm_153 rfl
      · refine (Q_aload_n zm_156 (Or.inl (by decide)) D156_58 rfl).trans ?_
        refine (Q_getI zm_156 (Or.inl (by decide)) D156_59 zf_10_180 (Or.inl zs_10_25) zk_127.1).trans ?_
        refine (Q_bipush (v := 62) zm_156 (Or.inl (by decide)) D156_62 (by decide)).trans ?_
        refine (Q_ic_eq (tgt := 87) zm_156 (Or.inl (by decide)) D156_64 (by decide)).trans ?_
        refine zif_c (fun h3_ => ?_) (fun h3_ => ?_)
        · refine (Q_aload_n zm_156 (Or.inl (by decide)) D156_87 rfl).trans ?_
          refine (Q_getI zm_156 (Or.inl (by decide)) D156_88 zf_10_180 (Or.inl zs_10_25) zk_127.1).trans ?_
          refine (Q_istore_n (ls' := [some (.ref 127), some (.int (ia 127 25))]) zm_156 (Or.inl (by decide)) D156_91 rfl (Nat.le_of_ble_eq_true rfl) rfl).trans ?_
          refine (Q_aload_n zm_156 (Or.inl (by decide)) D156_92 rfl).trans ?_
          exact Q_callv (as := []) (b := 127) (rest := []) zm_156 (Or.inl (by decide)) D156_93 zc_10_276 rfl zk_127.1 (by decide) (by decide +kernel) (by decide) (by simp [zcat, Value.category]) zm_153 rfl
        · refine (Q_aload_n zm_156 (Or.inl (by decide)) D156_67 rfl).trans ?_
          refine (Q_getI zm_156 (Or.inl (by decide)) D156_68 zf_10_180 (Or.inl zs_10_25) zk_127.1).trans ?_
          refine (Q_bipush (v := 61) zm_156 (Or.inl (by decide)) D156_71 (by decide)).trans ?_
          refine (Q_ic_eq (tgt := 87) zm_156 (Or.inl (by decide)) D156_73 (by decide)).trans ?_
          refine zif_c (fun h4_ => ?_) (fun h4_ => ?_)
          · refine (Q_aload_n zm_156 (Or.inl (by decide)) D156_87 rfl).trans ?_
            refine (Q_getI zm_156 (Or.inl (by decide)) D156_88 zf_10_180 (Or.inl zs_10_25) zk_127.1).trans ?_
            refine (Q_istore_n (ls' := [some (.ref 127), some (.int (ia 127 25))]) zm_156 (Or.inl (by decide)) D156_91 rfl (Nat.le_of_ble_eq_true rfl) rfl).trans ?_
            refine (Q_aload_n zm_156 (Or.inl (by decide)) D156_92 rfl).trans ?_
            exact Q_callv (as := []) (b := 127) (rest := []) zm_156 (Or.inl (by decide)) D156_93 zc_10_276 rfl zk_127.1 (by decide) (by decide +kernel) (by decide) (by simp [zcat, Value.category]) zm_153 rfl
          · refine (Q_aload_n zm_156 (Or.inl (by decide)) D156_76 rfl).trans ?_
            refine (Q_getI zm_156 (Or.inl (by decide)) D156_77 zf_10_180 (Or.inl zs_10_25) zk_127.1).trans ?_
            refine (Q_sipush (v := 256) zm_156 (Or.inl (by decide)) D156_80 (by decide)).trans ?_
            refine (Q_ic_ge (tgt := 87) zm_156 (Or.inl (by decide)) D156_83 (by decide)).trans ?_
            refine zif_c (fun h5_ => ?_) (fun h5_ => ?_)
            · refine (Q_aload_n zm_156 (Or.inl (by decide)) D156_87 rfl).trans ?_
              refine (Q_getI zm_156 (Or.inl (by decide)) D156_88 zf_10_180 (Or.inl zs_10_25) zk_127.1).trans ?_
              refine (Q_istore_n (ls' := [some (.ref 127), some (.int (ia 127 25))]) zm_156 (Or.inl (by decide)) D156_91 rfl (Nat.le_of_ble_eq_true rfl) rfl).trans ?_
              refine (Q_aload_n zm_156 (Or.inl (by decide)) D156_92 rfl).trans ?_
              exact Q_callv (as := []) (b := 127) (rest := []) zm_156 (Or.inl (by decide)) D156_93 zc_10_276 rfl zk_127.1 (by decide) (by decide +kernel) (by decide) (by simp [zcat, Value.category]) zm_153 rfl
            · exact Q_return zm_156 (Or.inl (by decide)) D156_86 rfl

theorem b156_13 {d : Nat}  {ia : Nat → Nat → Int32} {la : Nat → Nat → Int64} {pl dr : Nat} {cp : Option Nat} {cw : Option Nat} {rp : Option Nat} {K : Option Value → zHP → Prop}  : zWP (d + 1) 156 13 [some (.ref 127), none] [] (ia, la, zRA pl dr cp cw rp) K = zWM d 140 [.ref 127] (ia, la, zRA pl dr cp cw rp) (zK (d + 1) 156 17 [some (.ref 127), none] [] K) := by
  refine (Q_aload_n zm_156 (Or.inl (by decide)) D156_13 rfl).trans ?_
  exact Q_callv (as := []) (b := 127) (rest := []) zm_156 (Or.inl (by decide)) D156_14 zc_10_228 rfl zk_127.1 (by decide) (by decide +kernel) (by decide) (by simp [zcat, Value.category]) zm_140 rfl

theorem b156_96 {d : Nat} {i1 : Int32} {ia : Nat → Nat → Int32} {la : Nat → Nat → Int64} {pl dr : Nat} {cp : Option Nat} {cw : Option Nat} {rp : Option Nat} {K : Option Value → zHP → Prop}  : zWP (d + 1) 156 96 [some (.ref 127), some (.int i1)] [] (ia, la, zRA pl dr cp cw rp) K = zWM d 140 [.ref 127] (ia, la, zRA pl dr cp cw rp) (zK (d + 1) 156 100 [some (.ref 127), some (.int i1)] [] K) := by
  refine (Q_aload_n zm_156 (Or.inl (by decide)) D156_96 rfl).trans ?_
  exact Q_callv (as := []) (b := 127) (rest := []) zm_156 (Or.inl (by decide)) D156_97 zc_10_228 rfl zk_127.1 (by decide) (by decide +kernel) (by decide) (by simp [zcat, Value.category]) zm_140 rfl

theorem b156_17 {d : Nat}  {ia : Nat → Nat → Int32} {la : Nat → Nat → Int64} {pl dr : Nat} {cp : Option Nat} {cw : Option Nat} {rp : Option Nat} {K : Option Value → zHP → Prop}  : zWP (d + 1) 156 17 [some (.ref 127), none] [] (ia, la, zRA pl dr cp cw rp) K = zWM d 156 [.ref 127] (ia, la, zRA pl dr cp cw rp) (zK (d + 1) 156 21 [some (.ref 127), none] [] K) := by
  refine (Q_aload_n zm_156 (Or.inl (by decide)) D156_17 rfl).trans ?_
  exact Q_callv (as := []) (b := 127) (rest := []) zm_156 (Or.inl (by decide)) D156_18 zc_10_282 rfl zk_127.1 (by decide) (by decide +kernel) (by decide) (by simp [zcat, Value.category]) zm_156 rfl

theorem b156_100 {d : Nat} {i1 : Int32} {ia : Nat → Nat → Int32} {la : Nat → Nat → Int64} {pl dr : Nat} {cp : Option Nat} {cw : Option Nat} {rp : Option Nat} {K : Option Value → zHP → Prop}  : zWP (d + 1) 156 100 [some (.ref 127), some (.int i1)] [] (ia, la, zRA pl dr cp cw rp) K = zWM d 157 [.ref 127] (ia, la, zRA pl dr cp cw rp) (zK (d + 1) 156 104 [some (.ref 127), some (.int i1)] [] K) := by
  refine (Q_aload_n zm_156 (Or.inl (by decide)) D156_100 rfl).trans ?_
  exact Q_callv (as := []) (b := 127) (rest := []) zm_156 (Or.inl (by decide)) D156_101 zc_10_285 rfl zk_127.1 (by decide) (by decide +kernel) (by decide) (by simp [zcat, Value.category]) zm_157 rfl

theorem b156_21 {d : Nat}  {ia : Nat → Nat → Int32} {la : Nat → Nat → Int64} {pl dr : Nat} {cp : Option Nat} {cw : Option Nat} {rp : Option Nat} {K : Option Value → zHP → Prop}  : zWP (d + 1) 156 21 [some (.ref 127), none] [] (ia, la, zRA pl dr cp cw rp) K = zWM d 152 [.ref 127, .int (2 : Int32), .int (260 : Int32)] (ia, la, zRA pl dr cp cw rp) (zK (d + 1) 156 29 [some (.ref 127), none] [] K) := by
  refine (Q_aload_n zm_156 (Or.inl (by decide)) D156_21 rfl).trans ?_
  refine (Q_iconst (v := 2) zm_156 (Or.inl (by decide)) D156_22 (by decide)).trans ?_
  refine (Q_sipush (v := 260) zm_156 (Or.inl (by decide)) D156_23 (by decide)).trans ?_
  exact Q_callv (as := [.int (2 : Int32), .int (260 : Int32)]) (b := 127) (rest := []) zm_156 (Or.inl (by decide)) D156_26 zc_10_279 rfl zk_127.1 (by decide) (by decide +kernel) (by decide) (by simp [zcat, Value.category]) zm_152 rfl

theorem b156_104 {d : Nat} {i1 : Int32} {ia : Nat → Nat → Int32} {la : Nat → Nat → Int64} {pl dr : Nat} {cp : Option Nat} {cw : Option Nat} {rp : Option Nat} {K : Option Value → zHP → Prop}  : zWP (d + 1) 156 104 [some (.ref 127), some (.int i1)] [] (ia, la, zRA pl dr cp cw rp) K = zWM d 152 [.ref 127, .int (2 : Int32), .int i1] (ia, la, zRA pl dr cp cw rp) (zK (d + 1) 156 110 [some (.ref 127), some (.int i1)] [] K) := by
  refine (Q_aload_n zm_156 (Or.inl (by decide)) D156_104 rfl).trans ?_
  refine (Q_iconst (v := 2) zm_156 (Or.inl (by decide)) D156_105 (by decide)).trans ?_
  refine (Q_iload_n zm_156 (Or.inl (by decide)) D156_106 rfl).trans ?_
  exact Q_callv (as := [.int (2 : Int32), .int i1]) (b := 127) (rest := []) zm_156 (Or.inl (by decide)) D156_107 zc_10_279 rfl zk_127.1 (by decide) (by decide +kernel) (by decide) (by simp [zcat, Value.category]) zm_152 rfl

theorem b156_29 {d : Nat}  {ia : Nat → Nat → Int32} {la : Nat → Nat → Int64} {pl dr : Nat} {cp : Option Nat} {cw : Option Nat} {rp : Option Nat} {K : Option Value → zHP → Prop}  : zWP d 156 29 [some (.ref 127), none] [] (ia, la, zRA pl dr cp cw rp) K = K none (ia, la, zRA pl dr cp cw rp) := by
  exact Q_return zm_156 (Or.inl (by decide)) D156_29 rfl

theorem b156_110 {d : Nat} {i1 : Int32} {ia : Nat → Nat → Int32} {la : Nat → Nat → Int64} {pl dr : Nat} {cp : Option Nat} {cw : Option Nat} {rp : Option Nat} {K : Option Value → zHP → Prop}  : zWP d 156 110 [some (.ref 127), some (.int i1)] [] (ia, la, zRA pl dr cp cw rp) K = K none (ia, la, zRA pl dr cp cw rp) := by
  exact Q_return zm_156 (Or.inl (by decide)) D156_110 rfl

/-! HandsLetModel.sum()V -/
theorem D157_0 : decode prog_12_method_31_code 0 = .ok (.aload_n 0, 1) := by decide +kernel
theorem D157_1 : decode prog_12_method_31_code 1 = .ok (.invokevirtual 288, 3) := by decide +kernel
theorem D157_4 : decode prog_12_method_31_code 4 = .ok (.aload_n 0, 1) := by decide +kernel
theorem D157_5 : decode prog_12_method_31_code 5 = .ok (.bipush 43, 2) := by decide +kernel
theorem D157_7 : decode prog_12_method_31_code 7 = .ok (.invokevirtual 258, 3) := by decide +kernel
theorem D157_10 : decode prog_12_method_31_code 10 = .ok (.ifCond .ne 12, 3) := by decide +kernel
theorem D157_13 : decode prog_12_method_31_code 13 = .ok (.aload_n 0, 1) := by decide +kernel
theorem D157_14 : decode prog_12_method_31_code 14 = .ok (.bipush 45, 2) := by decide +kernel
theorem D157_16 : decode prog_12_method_31_code 16 = .ok (.invokevirtual 258, 3) := by decide +kernel
theorem D157_19 : decode prog_12_method_31_code 19 = .ok (.ifCond .eq 29, 3) := by decide +kernel
theorem D157_22 : decode prog_12_method_31_code 22 = .ok (.aload_n 0, 1) := by decide +kernel
theorem D157_23 : decode prog_12_method_31_code 23 = .ok (.getfield 180, 3) := by decide +kernel
theorem D157_26 : decode prog_12_method_31_code 26 = .ok (.istore_n 1, 1) := by decide +kernel
theorem D157_27 : decode prog_12_method_31_code 27 = .ok (.aload_n 0, 1) := by decide +kernel
theorem D157_28 : decode prog_12_method_31_code 28 = .ok (.invokevirtual 276, 3) := by decide +kernel
theorem D157_31 : decode prog_12_method_31_code 31 = .ok (.aload_n 0, 1) := by decide +kernel
theorem D157_32 : decode prog_12_method_31_code 32 = .ok (.invokevirtual 228, 3) := by decide +kernel
theorem D157_35 : decode prog_12_method_31_code 35 = .ok (.aload_n 0, 1) := by decide +kernel
theorem D157_36 : decode prog_12_method_31_code 36 = .ok (.invokevirtual 288, 3) := by decide +kernel
theorem D157_39 : decode prog_12_method_31_code 39 = .ok (.aload_n 0, 1) := by decide +kernel
theorem D157_40 : decode prog_12_method_31_code 40 = .ok (.iconst 2, 1) := by decide +kernel
theorem D157_41 : decode prog_12_method_31_code 41 = .ok (.iload_n 1, 1) := by decide +kernel
theorem D157_42 : decode prog_12_method_31_code 42 = .ok (.invokevirtual 279, 3) := by decide +kernel
theorem D157_45 : decode prog_12_method_31_code 45 = .ok (.goto (-41), 3) := by decide +kernel
theorem D157_48 : decode prog_12_method_31_code 48 = .ok (.return_, 1) := by decide +kernel

theorem b157_0 {d : Nat}  {ia : Nat → Nat → Int32} {la : Nat → Nat → Int64} {pl dr : Nat} {cp : Option Nat} {cw : Option Nat} {rp : Option Nat} {K : Option Value → zHP → Prop}  : zWP (d + 1) 157 0 [some (.ref 127), none] [] (ia, la, zRA pl dr cp cw rp) K = zWM d 158 [.ref 127] (ia, la, zRA pl dr cp cw rp) (zK (d + 1) 157 4 [some (.ref 127), none] [] K) := by
  refine (Q_aload_n zm_157 (Or.inl (by decide)) D157_0 rfl).trans ?_
  exact Q_callv (as := []) (b := 127) (rest := []) zm_157 (Or.inl (by decide)) D157_1 zc_10_288 rfl zk_127.1 (by decide) (by decide +kernel) (by decide) (by simp [zcat, Value.category]) zm_158 rfl

theorem b157_4 {d : Nat} {a1 : Option Value} {ia : Nat → Nat → Int32} {la : Nat → Nat → Int64} {pl dr : Nat} {cp : Option Nat} {cw : Option Nat} {rp : Option Nat} {K : Option Value → zHP → Prop}  : zWP (d + 1) 157 4 [some (.ref 127), a1] [] (ia, la, zRA pl dr cp cw rp) K = zWM d 139 [.ref 127, .int (43 : Int32)] (ia, la, zRA pl dr cp cw rp) (zK (d + 1) 157 10 [some (.ref 127), a1] [] K) := by
  refine (Q_aload_n zm_157 (Or.inl (by decide)) D157_4 rfl).trans ?_
  refine (Q_bipush (v := 43) zm_157 (Or.inl (by decide)) D157_5 (by decide)).trans ?_
  exact Q_callv (as := [.int (43 : Int32)]) (b := 127) (rest := []) zm_157 (Or.inl (by decide)) D157_7 zc_10_258 rfl zk_127.1 (by decide) (by decide +kernel) (by decide) (by simp [zcat, Value.category]) zm_139 rfl

theorem b157_10 {d : Nat} {a1 : Option Value} {s0 : Int32} {ia : Nat → Nat → Int32} {la : Nat → Nat → Int64} {pl dr : Nat} {cp : Option Nat} {cw : Option Nat} {rp : Option Nat} {K : Option Value → zHP → Prop}  : zWP (d + 1) 157 10 [some (.ref 127), a1] [.int s0] (ia, la, zRA pl dr cp cw rp) K = (if ¬ s0 = 0 then zWM d 153 [.ref 127] (ia, la, zRA pl dr cp cw rp) (zK (d + 1) 157 31 [some (.ref 127), some (.int (ia 127 25))] [] K) else zWM d 139 [.ref 127, .int (45 : Int32)] (ia, la, zRA pl dr cp cw rp) (zK (d + 1) 157 19 [some (.ref 127), a1] [] K)) := by
  refine (Q_if_ne (tgt := 22) zm_157 (Or.inl (by decide)) D157_10 (by decide)).trans ?_
  refine zif_c (fun h0_ => ?_) (fun h0_ => ?_)
  · refine (Q_aload_n zm_157 (Or.inl (by decide)) D157_22 rfl).trans ?_
    refine (Q_getI zm_157 (Or.inl (by decide)) D157_23 zf_10_180 (Or.inl zs_10_25) zk_127.1).trans ?_
    refine (Q_istore_n (ls' := [some (.ref 127), some (.int (ia 127 25))]) zm_157 (Or.inl (by decide)) D157_26 rfl (Nat.le_of_ble_eq_true rfl) rfl).trans ?_
    refine (Q_aload_n zm_157 (Or.inl (by decide)) D157_27 rfl).trans ?_
    exact Q_callv (as := []) (b := 127) (rest := []) zm_157 (Or.inl (by decide)) D157_28 zc_10_276 rfl zk_127.1 (by decide) (by decide +kernel) (by decide) (by simp [zcat, Value.category]) zm_153 rfl
  · refine (Q_aload_n zm_157 (Or.inl (by decide)) D157_13 rfl).trans ?_
    refine (Q_bipush (v := 45) zm_157 (Or.inl (by decide)) D157_14 (by decide)).trans ?_
    exact Q_callv (as := [.int (45 : Int32)]) (b := 127) (rest := []) zm_157 (Or.inl (by decide)) D157_16 zc_10_258 rfl zk_127.1 (by decide) (by decide +kernel) (by decide) (by simp [zcat, Value.category]) zm_139 rfl

theorem b157_31 {d : Nat} {i1 : Int32} {ia : Nat → Nat → Int32} {la : Nat → Nat → Int64} {pl dr : Nat} {cp : Option Nat} {cw : Option Nat} {rp : Option Nat} {K : Option Value → zHP → Prop}  : zWP (d + 1) 157 31 [some (.ref 127), some (.int i1)] [] (ia, la, zRA pl dr cp cw rp) K = zWM d 140 [.ref 127] (ia, la, zRA pl dr cp cw rp) (zK (d + 1) 157 35 [some (.ref 127), some (.int i1)] [] K) := by
  refine (Q_aload_n zm_157 (Or.inl (by decide)) D157_31 rfl).trans ?_
  exact Q_callv (as := []) (b := 127) (rest := []) zm_157 (Or.inl (by decide)) D157_32 zc_10_228 rfl zk_127.1 (by decide) (by decide +kernel) (by decide) (by simp [zcat, Value.category]) zm_140 rfl

theorem b157_19 {d : Nat} {a1 : Option Value} {s0 : Int32} {ia : Nat → Nat → Int32} {la : Nat → Nat → Int64} {pl dr : Nat} {cp : Option Nat} {cw : Option Nat} {rp : Option Nat} {K : Option Value → zHP → Prop}  : zWP (d + 1) 157 19 [some (.ref 127), a1] [.int s0] (ia, la, zRA pl dr cp cw rp) K = (if s0 = 0 then K none (ia, la, zRA pl dr cp cw rp) else zWM d 153 [.ref 127] (ia, la, zRA pl dr cp cw rp) (zK (d + 1) 157 31 [some (.ref 127), some (.int (ia 127 25))] [] K)) := by
  refine (Q_if_eq (tgt := 48) zm_157 (Or.inl (by decide)) D157_19 (by decide)).trans ?_
  refine zif_c (fun h0_ => ?_) (fun h0_ => ?_)
  · exact Q_return zm_157 (Or.inl (by decide)) D157_48 rfl
  · refine (Q_aload_n zm_157 (Or.inl (by decide)) D157_22 rfl).trans ?_
    refine (Q_getI zm_157 (Or.inl (by decide)) D157_23 zf_10_180 (Or.inl zs_10_25) zk_127.1).trans ?_
    refine (Q_istore_n (ls' := [some (.ref 127), some (.int (ia 127 25))]) zm_157 (Or.inl (by decide)) D157_26 rfl (Nat.le_of_ble_eq_true rfl) rfl).trans ?_
    refine (Q_aload_n zm_157 (Or.inl (by decide)) D157_27 rfl).trans ?_
    exact Q_callv (as := []) (b := 127) (rest := []) zm_157 (Or.inl (by decide)) D157_28 zc_10_276 rfl zk_127.1 (by decide) (by decide +kernel) (by decide) (by simp [zcat, Value.category]) zm_153 rfl

theorem b157_35 {d : Nat} {i1 : Int32} {ia : Nat → Nat → Int32} {la : Nat → Nat → Int64} {pl dr : Nat} {cp : Option Nat} {cw : Option Nat} {rp : Option Nat} {K : Option Value → zHP → Prop}  : zWP (d + 1) 157 35 [some (.ref 127), some (.int i1)] [] (ia, la, zRA pl dr cp cw rp) K = zWM d 158 [.ref 127] (ia, la, zRA pl dr cp cw rp) (zK (d + 1) 157 39 [some (.ref 127), some (.int i1)] [] K) := by
  refine (Q_aload_n zm_157 (Or.inl (by decide)) D157_35 rfl).trans ?_
  exact Q_callv (as := []) (b := 127) (rest := []) zm_157 (Or.inl (by decide)) D157_36 zc_10_288 rfl zk_127.1 (by decide) (by decide +kernel) (by decide) (by simp [zcat, Value.category]) zm_158 rfl

theorem b157_39 {d : Nat} {i1 : Int32} {ia : Nat → Nat → Int32} {la : Nat → Nat → Int64} {pl dr : Nat} {cp : Option Nat} {cw : Option Nat} {rp : Option Nat} {K : Option Value → zHP → Prop}  : zWP (d + 1) 157 39 [some (.ref 127), some (.int i1)] [] (ia, la, zRA pl dr cp cw rp) K = zWM d 152 [.ref 127, .int (2 : Int32), .int i1] (ia, la, zRA pl dr cp cw rp) (zK (d + 1) 157 45 [some (.ref 127), some (.int i1)] [] K) := by
  refine (Q_aload_n zm_157 (Or.inl (by decide)) D157_39 rfl).trans ?_
  refine (Q_iconst (v := 2) zm_157 (Or.inl (by decide)) D157_40 (by decide)).trans ?_
  refine (Q_iload_n zm_157 (Or.inl (by decide)) D157_41 rfl).trans ?_
  exact Q_callv (as := [.int (2 : Int32), .int i1]) (b := 127) (rest := []) zm_157 (Or.inl (by decide)) D157_42 zc_10_279 rfl zk_127.1 (by decide) (by decide +kernel) (by decide) (by simp [zcat, Value.category]) zm_152 rfl

theorem b157_45 {d : Nat} {i1 : Int32} {ia : Nat → Nat → Int32} {la : Nat → Nat → Int64} {pl dr : Nat} {cp : Option Nat} {cw : Option Nat} {rp : Option Nat} {K : Option Value → zHP → Prop}  : zWP d 157 45 [some (.ref 127), some (.int i1)] [] (ia, la, zRA pl dr cp cw rp) K = zWP d 157 4 [some (.ref 127), some (.int i1)] [] (ia, la, zRA pl dr cp cw rp) K := by
  refine (Q_goto (tgt := 4) zm_157 (Or.inl (by decide)) D157_45 (by decide)).trans ?_
  rfl

/-! HandsLetModel.product()V -/
theorem D158_0 : decode prog_12_method_32_code 0 = .ok (.aload_n 0, 1) := by decide +kernel
theorem D158_1 : decode prog_12_method_32_code 1 = .ok (.invokevirtual 291, 3) := by decide +kernel
theorem D158_4 : decode prog_12_method_32_code 4 = .ok (.aload_n 0, 1) := by decide +kernel
theorem D158_5 : decode prog_12_method_32_code 5 = .ok (.bipush 42, 2) := by decide +kernel
theorem D158_7 : decode prog_12_method_32_code 7 = .ok (.invokevirtual 258, 3) := by decide +kernel
theorem D158_10 : decode prog_12_method_32_code 10 = .ok (.ifCond .ne 12, 3) := by decide +kernel
theorem D158_13 : decode prog_12_method_32_code 13 = .ok (.aload_n 0, 1) := by decide +kernel
theorem D158_14 : decode prog_12_method_32_code 14 = .ok (.bipush 47, 2) := by decide +kernel
theorem D158_16 : decode prog_12_method_32_code 16 = .ok (.invokevirtual 258, 3) := by decide +kernel
theorem D158_19 : decode prog_12_method_32_code 19 = .ok (.ifCond .eq 29, 3) := by decide +kernel
theorem D158_22 : decode prog_12_method_32_code 22 = .ok (.aload_n 0, 1) := by decide +kernel
theorem D158_23 : decode prog_12_method_32_code 23 = .ok (.getfield 180, 3) := by decide +kernel
theorem D158_26 : decode prog_12_method_32_code 26 = .ok (.istore_n 1, 1) := by decide +kernel
theorem D158_27 : decode prog_12_method_32_code 27 = .ok (.aload_n 0, 1) := by decide +kernel
theorem D158_28 : decode prog_12_method_32_code 28 = .ok (.invokevirtual 276, 3) := by decide +kernel
theorem D158_31 : decode prog_12_method_32_code 31 = .ok (.aload_n 0, 1) := by decide +kernel
theorem D158_32 : decode prog_12_method_32_code 32 = .ok (.invokevirtual 228, 3) := by decide +kernel
theorem D158_35 : decode prog_12_method_32_code 35 = .ok (.aload_n 0, 1) := by decide +kernel
theorem D158_36 : decode prog_12_method_32_code 36 = .ok (.invokevirtual 291, 3) := by decide +kernel
theorem D158_39 : decode prog_12_method_32_code 39 = .ok (.aload_n 0, 1) := by decide +kernel
theorem D158_40 : decode prog_12_method_32_code 40 = .ok (.iconst 2, 1) := by decide +kernel
theorem D158_41 : decode prog_12_method_32_code 41 = .ok (.iload_n 1, 1) := by decide +kernel
theorem D158_42 : decode prog_12_method_32_code 42 = .ok (.invokevirtual 279, 3) := by decide +kernel
theorem D158_45 : decode prog_12_method_32_code 45 = .ok (.goto (-41), 3) := by decide +kernel
theorem D158_48 : decode prog_12_method_32_code 48 = .ok (.return_, 1) := by decide +kernel

theorem b158_0 {d : Nat}  {ia : Nat → Nat → Int32} {la : Nat → Nat → Int64} {pl dr : Nat} {cp : Option Nat} {cw : Option Nat} {rp : Option Nat} {K : Option Value → zHP → Prop}  : zWP (d + 1) 158 0 [some (.ref 127), none] [] (ia, la, zRA pl dr cp cw rp) K = zWM d 159 [.ref 127] (ia, la, zRA pl dr cp cw rp) (zK (d + 1) 158 4 [some (.ref 127), none] [] K) := by
  refine (Q_aload_n zm_158 (Or.inl (by decide)) D158_0 rfl).trans ?_
  exact Q_callv (as := []) (b := 127) (rest := []) zm_158 (Or.inl (by decide)) D158_1 zc_10_291 rfl zk_127.1 (by decide) (by decide +kernel) (by decide) (by simp [zcat, Value.category]) zm_159 rfl

theorem b158_4 {d : Nat} {a1 : Option Value} {ia : Nat → Nat → Int32} {la : Nat → Nat → Int64} {pl dr : Nat} {cp : Option Nat} {cw : Option Nat} {rp : Option Nat} {K : Option Value → zHP → Prop}  : zWP (d + 1) 158 4 [some (.ref 127), a1] [] (ia, la, zRA pl dr cp cw rp) K = zWM d 139 [.ref 127, .int (42 : Int32)] (ia, la, zRA pl dr cp cw rp) (zK (d + 1) 158 10 [some (.ref 127), a1] [] K) := by
  refine (Q_aload_n zm_158 (Or.inl (by decide)) D158_4 rfl).trans ?_
  refine (Q_bipush (v := 42) zm_158 (Or.inl (by decide)) D158_5 (by decide)).trans ?_
  exact Q_callv (as := [.int (42 : Int32)]) (b := 127) (rest := []) zm_158 (Or.inl (by decide)) D158_7 zc_10_258 rfl zk_127.1 (by decide) (by decide +kernel) (by decide) (by simp [zcat, Value.category]) zm_139 rfl

theorem b158_10 {d : Nat} {a1 : Option Value} {s0 : Int32} {ia : Nat → Nat → Int32} {la : Nat → Nat → Int64} {pl dr : Nat} {cp : Option Nat} {cw : Option Nat} {rp : Option Nat} {K : Option Value → zHP → Prop}  : zWP (d + 1) 158 10 [some (.ref 127), a1] [.int s0] (ia, la, zRA pl dr cp cw rp) K = (if ¬ s0 = 0 then zWM d 153 [.ref 127] (ia, la, zRA pl dr cp cw rp) (zK (d + 1) 158 31 [some (.ref 127), some (.int (ia 127 25))] [] K) else zWM d 139 [.ref 127, .int (47 : Int32)] (ia, la, zRA pl dr cp cw rp) (zK (d + 1) 158 19 [some (.ref 127), a1] [] K)) := by
  refine (Q_if_ne (tgt := 22) zm_158 (Or.inl (by decide)) D158_10 (by decide)).trans ?_
  refine zif_c (fun h0_ => ?_) (fun h0_ => ?_)
  · refine (Q_aload_n zm_158 (Or.inl (by decide)) D158_22 rfl).trans ?_
    refine (Q_getI zm_158 (Or.inl (by decide)) D158_23 zf_10_180 (Or.inl zs_10_25) zk_127.1).trans ?_
    refine (Q_istore_n (ls' := [some (.ref 127), some (.int (ia 127 25))]) zm_158 (Or.inl (by decide)) D158_26 rfl (Nat.le_of_ble_eq_true rfl) rfl).trans ?_
    refine (Q_aload_n zm_158 (Or.inl (by decide)) D158_27 rfl).trans ?_
    exact Q_callv (as := []) (b := 127) (rest := []) zm_158 (Or.inl (by decide)) D158_28 zc_10_276 rfl zk_127.1 (by decide) (by decide +kernel) (by decide) (by simp [zcat, Value.category]) zm_153 rfl
  · refine (Q_aload_n zm_158 (Or.inl (by decide)) D158_13 rfl).trans ?_
    refine (Q_bipush (v := 47) zm_158 (Or.inl (by decide)) D158_14 (by decide)).trans ?_
    exact Q_callv (as := [.int (47 : Int32)]) (b := 127) (rest := []) zm_158 (Or.inl (by decide)) D158_16 zc_10_258 rfl zk_127.1 (by decide) (by decide +kernel) (by decide) (by simp [zcat, Value.category]) zm_139 rfl

theorem b158_31 {d : Nat} {i1 : Int32} {ia : Nat → Nat → Int32} {la : Nat → Nat → Int64} {pl dr : Nat} {cp : Option Nat} {cw : Option Nat} {rp : Option Nat} {K : Option Value → zHP → Prop}  : zWP (d + 1) 158 31 [some (.ref 127), some (.int i1)] [] (ia, la, zRA pl dr cp cw rp) K = zWM d 140 [.ref 127] (ia, la, zRA pl dr cp cw rp) (zK (d + 1) 158 35 [some (.ref 127), some (.int i1)] [] K) := by
  refine (Q_aload_n zm_158 (Or.inl (by decide)) D158_31 rfl).trans ?_
  exact Q_callv (as := []) (b := 127) (rest := []) zm_158 (Or.inl (by decide)) D158_32 zc_10_228 rfl zk_127.1 (by decide) (by decide +kernel) (by decide) (by simp [zcat, Value.category]) zm_140 rfl

theorem b158_19 {d : Nat} {a1 : Option Value} {s0 : Int32} {ia : Nat → Nat → Int32} {la : Nat → Nat → Int64} {pl dr : Nat} {cp : Option Nat} {cw : Option Nat} {rp : Option Nat} {K : Option Value → zHP → Prop}  : zWP (d + 1) 158 19 [some (.ref 127), a1] [.int s0] (ia, la, zRA pl dr cp cw rp) K = (if s0 = 0 then K none (ia, la, zRA pl dr cp cw rp) else zWM d 153 [.ref 127] (ia, la, zRA pl dr cp cw rp) (zK (d + 1) 158 31 [some (.ref 127), some (.int (ia 127 25))] [] K)) := by
  refine (Q_if_eq (tgt := 48) zm_158 (Or.inl (by decide)) D158_19 (by decide)).trans ?_
  refine zif_c (fun h0_ => ?_) (fun h0_ => ?_)
  · exact Q_return zm_158 (Or.inl (by decide)) D158_48 rfl
  · refine (Q_aload_n zm_158 (Or.inl (by decide)) D158_22 rfl).trans ?_
    refine (Q_getI zm_158 (Or.inl (by decide)) D158_23 zf_10_180 (Or.inl zs_10_25) zk_127.1).trans ?_
    refine (Q_istore_n (ls' := [some (.ref 127), some (.int (ia 127 25))]) zm_158 (Or.inl (by decide)) D158_26 rfl (Nat.le_of_ble_eq_true rfl) rfl).trans ?_
    refine (Q_aload_n zm_158 (Or.inl (by decide)) D158_27 rfl).trans ?_
    exact Q_callv (as := []) (b := 127) (rest := []) zm_158 (Or.inl (by decide)) D158_28 zc_10_276 rfl zk_127.1 (by decide) (by decide +kernel) (by decide) (by simp [zcat, Value.category]) zm_153 rfl

theorem b158_35 {d : Nat} {i1 : Int32} {ia : Nat → Nat → Int32} {la : Nat → Nat → Int64} {pl dr : Nat} {cp : Option Nat} {cw : Option Nat} {rp : Option Nat} {K : Option Value → zHP → Prop}  : zWP (d + 1) 158 35 [some (.ref 127), some (.int i1)] [] (ia, la, zRA pl dr cp cw rp) K = zWM d 159 [.ref 127] (ia, la, zRA pl dr cp cw rp) (zK (d + 1) 158 39 [some (.ref 127), some (.int i1)] [] K) := by
  refine (Q_aload_n zm_158 (Or.inl (by decide)) D158_35 rfl).trans ?_
  exact Q_callv (as := []) (b := 127) (rest := []) zm_158 (Or.inl (by decide)) D158_36 zc_10_291 rfl zk_127.1 (by decide) (by decide +kernel) (by decide) (by simp [zcat, Value.category]) zm_159 rfl

theorem b158_39 {d : Nat} {i1 : Int32} {ia : Nat → Nat → Int32} {la : Nat → Nat → Int64} {pl dr : Nat} {cp : Option Nat} {cw : Option Nat} {rp : Option Nat} {K : Option Value → zHP → Prop}  : zWP (d + 1) 158 39 [some (.ref 127), some (.int i1)] [] (ia, la, zRA pl dr cp cw rp) K = zWM d 152 [.ref 127, .int (2 : Int32), .int i1] (ia, la, zRA pl dr cp cw rp) (zK (d + 1) 158 45 [some (.ref 127), some (.int i1)] [] K) := by
  refine (Q_aload_n zm_158 (Or.inl (by decide)) D158_39 rfl).trans ?_
  refine (Q_iconst (v := 2) zm_158 (Or.inl (by decide)) D158_40 (by decide)).trans ?_
  refine (Q_iload_n zm_158 (Or.inl (by decide)) D158_41 rfl).trans ?_
  exact Q_callv (as := [.int (2 : Int32), .int i1]) (b := 127) (rest := []) zm_158 (Or.inl (by decide)) D158_42 zc_10_279 rfl zk_127.1 (by decide) (by decide +kernel) (by decide) (by simp [zcat, Value.category]) zm_152 rfl

theorem b158_45 {d : Nat} {i1 : Int32} {ia : Nat → Nat → Int32} {la : Nat → Nat → Int64} {pl dr : Nat} {cp : Option Nat} {cw : Option Nat} {rp : Option Nat} {K : Option Value → zHP → Prop}  : zWP d 158 45 [some (.ref 127), some (.int i1)] [] (ia, la, zRA pl dr cp cw rp) K = zWP d 158 4 [some (.ref 127), some (.int i1)] [] (ia, la, zRA pl dr cp cw rp) K := by
  refine (Q_goto (tgt := 4) zm_158 (Or.inl (by decide)) D158_45 (by decide)).trans ?_
  rfl

/-! HandsLetModel.primary()V -/
theorem D159_0 : decode prog_12_method_33_code 0 = .ok (.aload_n 0, 1) := by decide +kernel
theorem D159_1 : decode prog_12_method_33_code 1 = .ok (.getfield 205, 3) := by decide +kernel
theorem D159_4 : decode prog_12_method_33_code 4 = .ok (.ifCond .eq 4, 3) := by decide +kernel
theorem D159_7 : decode prog_12_method_33_code 7 = .ok (.return_, 1) := by decide +kernel
theorem D159_8 : decode prog_12_method_33_code 8 = .ok (.aload_n 0, 1) := by decide +kernel
theorem D159_9 : decode prog_12_method_33_code 9 = .ok (.bipush 40, 2) := by decide +kernel
theorem D159_11 : decode prog_12_method_33_code 11 = .ok (.invokevirtual 258, 3) := by decide +kernel
theorem D159_14 : decode prog_12_method_33_code 14 = .ok (.ifCond .eq 87, 3) := by decide +kernel
theorem D159_17 : decode prog_12_method_33_code 17 = .ok (.aload_n 0, 1) := by decide +kernel
theorem D159_18 : decode prog_12_method_33_code 18 = .ok (.getfield 294, 3) := by decide +kernel
theorem D159_21 : decode prog_12_method_33_code 21 = .ok (.bipush 8, 2) := by decide +kernel
theorem D159_23 : decode prog_12_method_33_code 23 = .ok (.if_icmp .ne 8, 3) := by decide +kernel
theorem D159_26 : decode prog_12_method_33_code 26 = .ok (.aload_n 0, 1) := by decide +kernel
theorem D159_27 : decode prog_12_method_33_code 27 = .ok (.iconst 2, 1) := by decide +kernel
theorem D159_28 : decode prog_12_method_33_code 28 = .ok (.invokevirtual 214, 3) := by decide +kernel
theorem D159_31 : decode prog_12_method_33_code 31 = .ok (.aload_n 0, 1) := by decide +kernel
theorem D159_32 : decode prog_12_method_33_code 32 = .ok (.getfield 205, 3) := by decide +kernel
theorem D159_35 : decode prog_12_method_33_code 35 = .ok (.ifCond .eq 4, 3) := by decide +kernel
theorem D159_38 : decode prog_12_method_33_code 38 = .ok (.return_, 1) := by decide +kernel
theorem D159_39 : decode prog_12_method_33_code 39 = .ok (.aload_n 0, 1) := by decide +kernel
theorem D159_40 : decode prog_12_method_33_code 40 = .ok (.dup, 1) := by decide +kernel
theorem D159_41 : decode prog_12_method_33_code 41 = .ok (.getfield 294, 3) := by decide +kernel
theorem D159_44 : decode prog_12_method_33_code 44 = .ok (.iconst 1, 1) := by decide +kernel
theorem D159_45 : decode prog_12_method_33_code 45 = .ok (.iadd, 1) := by decide +kernel
theorem D159_46 : decode prog_12_method_33_code 46 = .ok (.putfield 294, 3) := by decide +kernel
theorem D159_49 : decode prog_12_method_33_code 49 = .ok (.aload_n 0, 1) := by decide +kernel
theorem D159_50 : decode prog_12_method_33_code 50 = .ok (.invokevirtual 211, 3) := by decide +kernel
theorem D159_53 : decode prog_12_method_33_code 53 = .ok (.aload_n 0, 1) := by decide +kernel
theorem D159_54 : decode prog_12_method_33_code 54 = .ok (.invokevirtual 264, 3) := by decide +kernel
theorem D159_57 : decode prog_12_method_33_code 57 = .ok (.aload_n 0, 1) := by decide +kernel
theorem D159_58 : decode prog_12_method_33_code 58 = .ok (.getfield 205, 3) := by decide +kernel
theorem D159_61 : decode prog_12_method_33_code 61 = .ok (.ifCond .ne 17, 3) := by decide +kernel
theorem D159_64 : decode prog_12_method_33_code 64 = .ok (.aload_n 0, 1) := by decide +kernel
theorem D159_65 : decode prog_12_method_33_code 65 = .ok (.bipush 41, 2) := by decide +kernel
theorem D159_67 : decode prog_12_method_33_code 67 = .ok (.invokevirtual 258, 3) := by decide +kernel
theorem D159_70 : decode prog_12_method_33_code 70 = .ok (.ifCond .ne 8, 3) := by decide +kernel
theorem D159_73 : decode prog_12_method_33_code 73 = .ok (.aload_n 0, 1) := by decide +kernel
theorem D159_74 : decode prog_12_method_33_code 74 = .ok (.iconst 1, 1) := by decide +kernel
theorem D159_75 : decode prog_12_method_33_code 75 = .ok (.invokevirtual 214, 3) := by decide +kernel
theorem D159_78 : decode prog_12_method_33_code 78 = .ok (.aload_n 0, 1) := by decide +kernel
theorem D159_79 : decode prog_12_method_33_code 79 = .ok (.getfield 205, 3) := by decide +kernel
theorem D159_82 : decode prog_12_method_33_code 82 = .ok (.ifCond .eq 4, 3) := by decide +kernel
theorem D159_85 : decode prog_12_method_33_code 85 = .ok (.return_, 1) := by decide +kernel
theorem D159_86 : decode prog_12_method_33_code 86 = .ok (.aload_n 0, 1) := by decide +kernel
theorem D159_87 : decode prog_12_method_33_code 87 = .ok (.dup, 1) := by decide +kernel
theorem D159_88 : decode prog_12_method_33_code 88 = .ok (.getfield 294, 3) := by decide +kernel
theorem D159_91 : decode prog_12_method_33_code 91 = .ok (.iconst 1, 1) := by decide +kernel
theorem D159_92 : decode prog_12_method_33_code 92 = .ok (.isub, 1) := by decide +kernel
theorem D159_93 : decode prog_12_method_33_code 93 = .ok (.putfield 294, 3) := by decide +kernel
theorem D159_96 : decode prog_12_method_33_code 96 = .ok (.aload_n 0, 1) := by decide +kernel
theorem D159_97 : decode prog_12_method_33_code 97 = .ok (.invokevirtual 211, 3) := by decide +kernel
theorem D159_100 : decode prog_12_method_33_code 100 = .ok (.return_, 1) := by decide +kernel
theorem D159_101 : decode prog_12_method_33_code 101 = .ok (.aload_n 0, 1) := by decide +kernel
theorem D159_102 : decode prog_12_method_33_code 102 = .ok (.getfield 170, 3) := by decide +kernel
theorem D159_105 : decode prog_12_method_33_code 105 = .ok (.iconst 2, 1) := by decide +kernel
theorem D159_106 : decode prog_12_method_33_code 106 = .ok (.if_icmp .ne 7, 3) := by decide +kernel
theorem D159_109 : decode prog_12_method_33_code 109 = .ok (.iconst 1, 1) := by decide +kernel
theorem D159_110 : decode prog_12_method_33_code 110 = .ok (.goto 4, 3) := by decide +kernel
theorem D159_113 : decode prog_12_method_33_code 113 = .ok (.iconst 0, 1) := by decide +kernel
theorem D159_114 : decode prog_12_method_33_code 114 = .ok (.istore_n 1, 1) := by decide +kernel
theorem D159_115 : decode prog_12_method_33_code 115 = .ok (.iload_n 1, 1) := by decide +kernel
theorem D159_116 : decode prog_12_method_33_code 116 = .ok (.ifCond .eq 21, 3) := by decide +kernel
theorem D159_119 : decode prog_12_method_33_code 119 = .ok (.aload_n 0, 1) := by decide +kernel
theorem D159_120 : decode prog_12_method_33_code 120 = .ok (.getfield 180, 3) := by decide +kernel
theorem D159_123 : decode prog_12_method_33_code 123 = .ok (.sipush 9999, 3) := by decide +kernel
theorem D159_126 : decode prog_12_method_33_code 126 = .ok (.if_icmp .le 11, 3) := by decide +kernel
theorem D159_129 : decode prog_12_method_33_code 129 = .ok (.aload_n 0, 1) := by decide +kernel
theorem D159_130 : decode prog_12_method_33_code 130 = .ok (.iconst 2, 1) := by decide +kernel
theorem D159_131 : decode prog_12_method_33_code 131 = .ok (.invokevirtual 214, 3) := by decide +kernel
theorem D159_134 : decode prog_12_method_33_code 134 = .ok (.goto 28, 3) := by decide +kernel
theorem D159_137 : decode prog_12_method_33_code 137 = .ok (.iload_n 1, 1) := by decide +kernel
theorem D159_138 : decode prog_12_method_33_code 138 = .ok (.ifCond .ne 24, 3) := by decide +kernel
theorem D159_141 : decode prog_12_method_33_code 141 = .ok (.aload_n 0, 1) := by decide +kernel
theorem D159_142 : decode prog_12_method_33_code 142 = .ok (.getfield 170, 3) := by decide +kernel
theorem D159_145 : decode prog_12_method_33_code 145 = .ok (.ifCond .ne 12, 3) := by decide +kernel
theorem D159_148 : decode prog_12_method_33_code 148 = .ok (.aload_n 0, 1) := by decide +kernel
theorem D159_149 : decode prog_12_method_33_code 149 = .ok (.getfield 180, 3) := by decide +kernel
theorem D159_152 : decode prog_12_method_33_code 152 = .ok (.bipush 13, 2) := by decide +kernel
theorem D159_154 : decode prog_12_method_33_code 154 = .ok (.if_icmp .ge 8, 3) := by decide +kernel
theorem D159_157 : decode prog_12_method_33_code 157 = .ok (.aload_n 0, 1) := by decide +kernel
theorem D159_158 : decode prog_12_method_33_code 158 = .ok (.iconst 1, 1) := by decide +kernel
theorem D159_159 : decode prog_12_method_33_code 159 = .ok (.invokevirtual 214, 3) := by decide +kernel
theorem D159_162 : decode prog_12_method_33_code 162 = .ok (.aload_n 0, 1) := by decide +kernel
theorem D159_163 : decode prog_12_method_33_code 163 = .ok (.invokevirtual 276, 3) := by decide +kernel
theorem D159_166 : decode prog_12_method_33_code 166 = .ok (.aload_n 0, 1) := by decide +kernel
theorem D159_167 : decode prog_12_method_33_code 167 = .ok (.iload_n 1, 1) := by decide +kernel
theorem D159_168 : decode prog_12_method_33_code 168 = .ok (.ifCond .eq 7, 3) := by decide +kernel
theorem D159_171 : decode prog_12_method_33_code 171 = .ok (.iconst 0, 1) := by decide +kernel
theorem D159_172 : decode prog_12_method_33_code 172 = .ok (.goto 4, 3) := by decide +kernel
theorem D159_175 : decode prog_12_method_33_code 175 = .ok (.iconst 1, 1) := by decide +kernel
theorem D159_176 : decode prog_12_method_33_code 176 = .ok (.iload_n 1, 1) := by decide +kernel
theorem D159_177 : decode prog_12_method_33_code 177 = .ok (.ifCond .eq 10, 3) := by decide +kernel
theorem D159_180 : decode prog_12_method_33_code 180 = .ok (.aload_n 0, 1) := by decide +kernel
theorem D159_181 : decode prog_12_method_33_code 181 = .ok (.getfield 180, 3) := by decide +kernel
theorem D159_184 : decode prog_12_method_33_code 184 = .ok (.goto 10, 3) := by decide +kernel
theorem D159_187 : decode prog_12_method_33_code 187 = .ok (.aload_n 0, 1) := by decide +kernel
theorem D159_188 : decode prog_12_method_33_code 188 = .ok (.getfield 180, 3) := by decide +kernel
theorem D159_191 : decode prog_12_method_33_code 191 = .ok (.bipush 13, 2) := by decide +kernel
theorem D159_193 : decode prog_12_method_33_code 193 = .ok (.isub, 1) := by decide +kernel
theorem D159_194 : decode prog_12_method_33_code 194 = .ok (.invokevirtual 279, 3) := by decide +kernel
theorem D159_197 : decode prog_12_method_33_code 197 = .ok (.aload_n 0, 1) := by decide +kernel
theorem D159_198 : decode prog_12_method_33_code 198 = .ok (.invokevirtual 228, 3) := by decide +kernel
theorem D159_201 : decode prog_12_method_33_code 201 = .ok (.return_, 1) := by decide +kernel

theorem b159_0 {d : Nat}  {ia : Nat → Nat → Int32} {la : Nat → Nat → Int64} {pl dr : Nat} {cp : Option Nat} {cw : Option Nat} {rp : Option Nat} {K : Option Value → zHP → Prop}  : zWP (d + 1) 159 0 [some (.ref 127), none] [] (ia, la, zRA pl dr cp cw rp) K = (if (ia 127 26) = 0 then zWM d 139 [.ref 127, .int (40 : Int32)] (ia, la, zRA pl dr cp cw rp) (zK (d + 1) 159 14 [some (.ref 127), none] [] K) else K none (ia, la, zRA pl dr cp cw rp)) := by
  refine (Q_aload_n zm_159 (Or.inl (by decide)) D159_0 rfl).trans ?_
  refine (Q_getI zm_159 (Or.inl (by decide)) D159_1 zf_10_205 (Or.inl zs_10_26) zk_127.1).trans ?_
  refine (Q_if_eq (tgt := 8) zm_159 (Or.inl (by decide)) D159_4 (by decide)).trans ?_
  refine zif_c (fun h0_ => ?_) (fun h0_ => ?_)
  · refine (Q_aload_n zm_159 (Or.inl (by decide)) D159_8 rfl).trans ?_
    refine (Q_bipush (v := 40) zm_159 (Or.inl (by decide)) D159_9 (by decide)).trans ?_
    exact Q_callv (as := [.int (40 : Int32)]) (b := 127) (rest := []) zm_159 (Or.inl (by decide)) D159_11 zc_10_258 rfl zk_127.1 (by decide) (by decide +kernel) (by decide) (by simp [zcat, Value.category]) zm_139 rfl
  · exact Q_return zm_159 (Or.inl (by decide)) D159_7 rfl

theorem b159_14 {d : Nat} {s0 : Int32} {ia : Nat → Nat → Int32} {la : Nat → Nat → Int64} {pl dr : Nat} {cp : Option Nat} {cw : Option Nat} {rp : Option Nat} {K : Option Value → zHP → Prop}  : zWP (d + 1) 159 14 [some (.ref 127), none] [.int s0] (ia, la, zRA pl dr cp cw rp) K = (if s0 = 0 then (if ¬ (ia 127 24) = (2 : Int32) then zWP (d + 1) 159 114 [some (.ref 127), none] [.int (0 : Int32)] (ia, la, zRA pl dr cp cw rp) K else zWP (d + 1) 159 114 [some (.ref 127), none] [.int (1 : Int32)] (ia, la, zRA pl dr cp cw rp) K) else (if ¬ (ia 127 30) = (8 : Int32) then zWP (d + 1) 159 31 [some (.ref 127), none] [] (ia, la, zRA pl dr cp cw rp) K else zWM d 137 [.ref 127, .int (2 : Int32)] (ia, la, zRA pl dr cp cw rp) (zK (d + 1) 159 31 [some (.ref 127), none] [] K))) := by
  refine (Q_if_eq (tgt := 101) zm_159 (Or.inl (by decide)) D159_14 (by decide)).trans ?_
  refine zif_c (fun h0_ => ?_) (fun h0_ => ?_)
  · refine (Q_aload_n zm_159 (Or.inl (by decide)) D159_101 rfl).trans ?_
    refine (Q_getI zm_159 (Or.inl (by decide)) D159_102 zf_10_170 (Or.inl zs_10_24) zk_127.1).trans ?_
    refine (Q_iconst (v := 2) zm_159 (Or.inl (by decide)) D159_105 (by decide)).trans ?_
    refine (Q_ic_ne (tgt := 113) zm_159 (Or.inl (by decide)) D159_106 (by decide)).trans ?_
    refine zif_c (fun h1_ => ?_) (fun h1_ => ?_)
    · refine (Q_iconst (v := 0) zm_159 (Or.inl (by decide)) D159_113 (by decide)).trans ?_
      rfl
    · refine (Q_iconst (v := 1) zm_159 (Or.inl (by decide)) D159_109 (by decide)).trans ?_
      refine (Q_goto (tgt := 114) zm_159 (Or.inl (by decide)) D159_110 (by decide)).trans ?_
      rfl
  · refine (Q_aload_n zm_159 (Or.inl (by decide)) D159_17 rfl).trans ?_
    refine (Q_getI zm_159 (Or.inl (by decide)) D159_18 zf_10_294 (Or.inl zs_10_30) zk_127.1).trans ?_
    refine (Q_bipush (v := 8) zm_159 (Or.inl (by decide)) D159_21 (by decide)).trans ?_
    refine (Q_ic_ne (tgt := 31) zm_159 (Or.inl (by decide)) D159_23 (by decide)).trans ?_
    refine zif_c (fun h2_ => ?_) (fun h2_ => ?_)
    · rfl
    · refine (Q_aload_n zm_159 (Or.inl (by decide)) D159_26 rfl).trans ?_
      refine (Q_iconst (v := 2) zm_159 (Or.inl (by decide)) D159_27 (by decide)).trans ?_
      exact Q_callv (as := [.int (2 : Int32)]) (b := 127) (rest := []) zm_159 (Or.inl (by decide)) D159_28 zc_10_214 rfl zk_127.1 (by decide) (by decide +kernel) (by decide) (by simp [zcat, Value.category]) zm_137 rfl

theorem b159_114 {d : Nat} {s0 : Int32} {ia : Nat → Nat → Int32} {la : Nat → Nat → Int64} {pl dr : Nat} {cp : Option Nat} {cw : Option Nat} {rp : Option Nat} {K : Option Value → zHP → Prop}  : zWP (d + 1) 159 114 [some (.ref 127), none] [.int s0] (ia, la, zRA pl dr cp cw rp) K = (if s0 = 0 then zWP (d + 1) 159 137 [some (.ref 127), some (.int s0)] [] (ia, la, zRA pl dr cp cw rp) K else (if (ia 127 25) ≤ (9999 : Int32) then zWP (d + 1) 159 137 [some (.ref 127), some (.int s0)] [] (ia, la, zRA pl dr cp cw rp) K else zWM d 137 [.ref 127, .int (2 : Int32)] (ia, la, zRA pl dr cp cw rp) (zK (d + 1) 159 134 [some (.ref 127), some (.int s0)] [] K))) := by
  refine (Q_istore_n (ls' := [some (.ref 127), some (.int s0)]) zm_159 (Or.inl (by decide)) D159_114 rfl (Nat.le_of_ble_eq_true rfl) rfl).trans ?_
  refine (Q_iload_n zm_159 (Or.inl (by decide)) D159_115 rfl).trans ?_
  refine (Q_if_eq (tgt := 137) zm_159 (Or.inl (by decide)) D159_116 (by decide)).trans ?_
  refine zif_c (fun h0_ => ?_) (fun h0_ => ?_)
  · rfl
  · refine (Q_aload_n zm_159 (Or.inl (by decide)) D159_119 rfl).trans ?_
    refine (Q_getI zm_159 (Or.inl (by decide)) D159_120 zf_10_180 (Or.inl zs_10_25) zk_127.1).trans ?_
    refine (Q_sipush (v := 9999) zm_159 (Or.inl (by decide)) D159_123 (by decide)).trans ?_
    refine (Q_ic_le (tgt := 137) zm_159 (Or.inl (by decide)) D159_126 (by decide)).trans ?_
    refine zif_c (fun h1_ => ?_) (fun h1_ => ?_)
    · rfl
    · refine (Q_aload_n zm_159 (Or.inl (by decide)) D159_129 rfl).trans ?_
      refine (Q_iconst (v := 2) zm_159 (Or.inl (by decide)) D159_130 (by decide)).trans ?_
      exact Q_callv (as := [.int (2 : Int32)]) (b := 127) (rest := []) zm_159 (Or.inl (by decide)) D159_131 zc_10_214 rfl zk_127.1 (by decide) (by decide +kernel) (by decide) (by simp [zcat, Value.category]) zm_137 rfl

theorem b159_31 {d : Nat}  {ia : Nat → Nat → Int32} {la : Nat → Nat → Int64} {pl dr : Nat} {cp : Option Nat} {cw : Option Nat} {rp : Option Nat} {K : Option Value → zHP → Prop}  : zWP (d + 1) 159 31 [some (.ref 127), none] [] (ia, la, zRA pl dr cp cw rp) K = (if (ia 127 26) = 0 then zWM d 133 [.ref 127] ((zu ia 127 30 ((ia 127 30) + (1 : Int32))), la, zRA pl dr cp cw rp) (zK (d + 1) 159 53 [some (.ref 127), none] [] K) else K none (ia, la, zRA pl dr cp cw rp)) := by
  refine (Q_aload_n zm_159 (Or.inl (by decide)) D159_31 rfl).trans ?_
  refine (Q_getI zm_159 (Or.inl (by decide)) D159_32 zf_10_205 (Or.inl zs_10_26) zk_127.1).trans ?_
  refine (Q_if_eq (tgt := 39) zm_159 (Or.inl (by decide)) D159_35 (by decide)).trans ?_
  refine zif_c (fun h0_ => ?_) (fun h0_ => ?_)
  · refine (Q_aload_n zm_159 (Or.inl (by decide)) D159_39 rfl).trans ?_
    refine (Q_dup zm_159 (Or.inl (by decide)) D159_40 rfl).trans ?_
    refine (Q_getI zm_159 (Or.inl (by decide)) D159_41 zf_10_294 (Or.inl zs_10_30) zk_127.1).trans ?_
    refine (Q_iconst (v := 1) zm_159 (Or.inl (by decide)) D159_44 (by decide)).trans ?_
    refine (Q_iadd zm_159 (Or.inl (by decide)) D159_45).trans ?_
    refine (Q_putI zm_159 (Or.inl (by decide)) D159_46 zf_10_294 zs_10_30 rfl zk_127.1).trans ?_
    refine (Q_aload_n zm_159 (Or.inl (by decide)) D159_49 rfl).trans ?_
    exact Q_callv (as := []) (b := 127) (rest := []) zm_159 (Or.inl (by decide)) D159_50 zc_10_211 rfl zk_127.1 (by decide) (by decide +kernel) (by decide) (by simp [zcat, Value.category]) zm_133 rfl
  · exact Q_return zm_159 (Or.inl (by decide)) D159_38 rfl

theorem b159_137 {d : Nat} {i1 : Int32} {ia : Nat → Nat → Int32} {la : Nat → Nat → Int64} {pl dr : Nat} {cp : Option Nat} {cw : Option Nat} {rp : Option Nat} {K : Option Value → zHP → Prop}  : zWP (d + 1) 159 137 [some (.ref 127), some (.int i1)] [] (ia, la, zRA pl dr cp cw rp) K = (if ¬ i1 = 0 then zWM d 153 [.ref 127] (ia, la, zRA pl dr cp cw rp) (zK (d + 1) 159 166 [some (.ref 127), some (.int i1)] [] K) else (if ¬ (ia 127 24) = 0 then zWM d 137 [.ref 127, .int (1 : Int32)] (ia, la, zRA pl dr cp cw rp) (zK (d + 1) 159 162 [some (.ref 127), some (.int i1)] [] K) else (if (13 : Int32) ≤ (ia 127 25) then zWM d 153 [.ref 127] (ia, la, zRA pl dr cp cw rp) (zK (d + 1) 159 166 [some (.ref 127), some (.int i1)] [] K) else zWM d 137 [.ref 127, .int (1 : Int32)] (ia, la, zRA pl dr cp cw rp) (zK (d + 1) 159 162 [some (.ref 127), some (.int i1)] [] K)))) := by
  refine (Q_iload_n zm_159 (Or.inl (by decide)) D159_137 rfl).trans ?_
  refine (Q_if_ne (tgt := 162) zm_159 (Or.inl (by decide)) D159_138 (by decide)).trans ?_
  refine zif_c (fun h0_ => ?_) (fun h0_ => ?_)
  · refine (Q_aload_n zm_159 (Or.inl (by decide)) D159_162 rfl).trans ?_
    exact Q_callv (as := []) (b := 127) (rest := []) zm_159 (Or.inl (by decide)) D159_163 zc_10_276 rfl zk_127.1 (by decide) (by decide +kernel) (by decide) (by simp [zcat, Value.category]) zm_153 rfl
  · refine (Q_aload_n zm_159 (Or.inl (by decide)) D159_141 rfl).trans ?_
    refine (Q_getI zm_159 (Or.inl (by decide)) D159_142 zf_10_170 (Or.inl zs_10_24) zk_127.1).trans ?_
    refine (Q_if_ne (tgt := 157) zm_159 (Or.inl (by decide)) D159_145 (by decide)).trans ?_
    refine zif_c (fun h1_ => ?_) (fun h1_ => ?_)
    · refine (Q_aload_n zm_159 (Or.inl (by decide)) D159_157 rfl).trans ?_
      refine (Q_iconst (v := 1) zm_159 (Or.inl (by decide)) D159_158 (by decide)).trans ?_
      exact Q_callv (as := [.int (1 : Int32)]) (b := 127) (rest := []) zm_159 (Or.inl (by decide)) D159_159 zc_10_214 rfl zk_127.1 (by decide) (by decide +kernel) (by decide) (by simp [zcat, Value.category]) zm_137 rfl
    · refine (Q_aload_n zm_159 (Or.inl (by decide)) D159_148 rfl).trans ?_
      refine (Q_getI zm_159 (Or.inl (by decide)) D159_149 zf_10_180 (Or.inl zs_10_25) zk_127.1).trans ?_
      refine (Q_bipush (v := 13) zm_159 (Or.inl (by decide)) D159_152 (by decide)).trans ?_
      refine (Q_ic_ge (tgt := 162) zm_159 (Or.inl (by decide)) D159_154 (by decide)).trans ?_
      refine zif_c (fun h2_ => ?_) (fun h2_ => ?_)
      · refine (Q_aload_n zm_159 (Or.inl (by decide)) D159_162 rfl).trans ?_
        exact Q_callv (as := []) (b := 127) (rest := []) zm_159 (Or.inl (by decide)) D159_163 zc_10_276 rfl zk_127.1 (by decide) (by decide +kernel) (by decide) (by simp [zcat, Value.category]) zm_153 rfl
      · refine (Q_aload_n zm_159 (Or.inl (by decide)) D159_157 rfl).trans ?_
        refine (Q_iconst (v := 1) zm_159 (Or.inl (by decide)) D159_158 (by decide)).trans ?_
        exact Q_callv (as := [.int (1 : Int32)]) (b := 127) (rest := []) zm_159 (Or.inl (by decide)) D159_159 zc_10_214 rfl zk_127.1 (by decide) (by decide +kernel) (by decide) (by simp [zcat, Value.category]) zm_137 rfl

theorem b159_134 {d : Nat} {i1 : Int32} {ia : Nat → Nat → Int32} {la : Nat → Nat → Int64} {pl dr : Nat} {cp : Option Nat} {cw : Option Nat} {rp : Option Nat} {K : Option Value → zHP → Prop}  : zWP (d + 1) 159 134 [some (.ref 127), some (.int i1)] [] (ia, la, zRA pl dr cp cw rp) K = zWM d 153 [.ref 127] (ia, la, zRA pl dr cp cw rp) (zK (d + 1) 159 166 [some (.ref 127), some (.int i1)] [] K) := by
  refine (Q_goto (tgt := 162) zm_159 (Or.inl (by decide)) D159_134 (by decide)).trans ?_
  refine (Q_aload_n zm_159 (Or.inl (by decide)) D159_162 rfl).trans ?_
  exact Q_callv (as := []) (b := 127) (rest := []) zm_159 (Or.inl (by decide)) D159_163 zc_10_276 rfl zk_127.1 (by decide) (by decide +kernel) (by decide) (by simp [zcat, Value.category]) zm_153 rfl

theorem b159_53 {d : Nat}  {ia : Nat → Nat → Int32} {la : Nat → Nat → Int64} {pl dr : Nat} {cp : Option Nat} {cw : Option Nat} {rp : Option Nat} {K : Option Value → zHP → Prop}  : zWP (d + 1) 159 53 [some (.ref 127), none] [] (ia, la, zRA pl dr cp cw rp) K = zWM d 154 [.ref 127] (ia, la, zRA pl dr cp cw rp) (zK (d + 1) 159 57 [some (.ref 127), none] [] K) := by
  refine (Q_aload_n zm_159 (Or.inl (by decide)) D159_53 rfl).trans ?_
  exact Q_callv (as := []) (b := 127) (rest := []) zm_159 (Or.inl (by decide)) D159_54 zc_10_264 rfl zk_127.1 (by decide) (by decide +kernel) (by decide) (by simp [zcat, Value.category]) zm_154 rfl

theorem b159_166 {d : Nat} {i1 : Int32} {ia : Nat → Nat → Int32} {la : Nat → Nat → Int64} {pl dr : Nat} {cp : Option Nat} {cw : Option Nat} {rp : Option Nat} {K : Option Value → zHP → Prop}  : zWP d 159 166 [some (.ref 127), some (.int i1)] [] (ia, la, zRA pl dr cp cw rp) K = (if i1 = 0 then zWP d 159 176 [some (.ref 127), some (.int i1)] [.int (1 : Int32), .ref 127] (ia, la, zRA pl dr cp cw rp) K else zWP d 159 176 [some (.ref 127), some (.int i1)] [.int (0 : Int32), .ref 127] (ia, la, zRA pl dr cp cw rp) K) := by
  refine (Q_aload_n zm_159 (Or.inl (by decide)) D159_166 rfl).trans ?_
  refine (Q_iload_n zm_159 (Or.inl (by decide)) D159_167 rfl).trans ?_
  refine (Q_if_eq (tgt := 175) zm_159 (Or.inl (by decide)) D159_168 (by decide)).trans ?_
  refine zif_c (fun h0_ => ?_) (fun h0_ => ?_)
  · refine (Q_iconst (v := 1) zm_159 (Or.inl (by decide)) D159_175 (by decide)).trans ?_
    rfl
  · refine (Q_iconst (v := 0) zm_159 (Or.inl (by decide)) D159_171 (by decide)).trans ?_
    refine (Q_goto (tgt := 176) zm_159 (Or.inl (by decide)) D159_172 (by decide)).trans ?_
    rfl

theorem b159_162 {d : Nat} {i1 : Int32} {ia : Nat → Nat → Int32} {la : Nat → Nat → Int64} {pl dr : Nat} {cp : Option Nat} {cw : Option Nat} {rp : Option Nat} {K : Option Value → zHP → Prop}  : zWP (d + 1) 159 162 [some (.ref 127), some (.int i1)] [] (ia, la, zRA pl dr cp cw rp) K = zWM d 153 [.ref 127] (ia, la, zRA pl dr cp cw rp) (zK (d + 1) 159 166 [some (.ref 127), some (.int i1)] [] K) := by
  refine (Q_aload_n zm_159 (Or.inl (by decide)) D159_162 rfl).trans ?_
  exact Q_callv (as := []) (b := 127) (rest := []) zm_159 (Or.inl (by decide)) D159_163 zc_10_276 rfl zk_127.1 (by decide) (by decide +kernel) (by decide) (by simp [zcat, Value.category]) zm_153 rfl

theorem b159_57 {d : Nat}  {ia : Nat → Nat → Int32} {la : Nat → Nat → Int64} {pl dr : Nat} {cp : Option Nat} {cw : Option Nat} {rp : Option Nat} {K : Option Value → zHP → Prop}  : zWP (d + 1) 159 57 [some (.ref 127), none] [] (ia, la, zRA pl dr cp cw rp) K = (if ¬ (ia 127 26) = 0 then zWP (d + 1) 159 78 [some (.ref 127), none] [] (ia, la, zRA pl dr cp cw rp) K else zWM d 139 [.ref 127, .int (41 : Int32)] (ia, la, zRA pl dr cp cw rp) (zK (d + 1) 159 70 [some (.ref 127), none] [] K)) := by
  refine (Q_aload_n zm_159 (Or.inl (by decide)) D159_57 rfl).trans ?_
  refine (Q_getI zm_159 (Or.inl (by decide)) D159_58 zf_10_205 (Or.inl zs_10_26) zk_127.1).trans ?_
  refine (Q_if_ne (tgt := 78) zm_159 (Or.inl (by decide)) D159_61 (by decide)).trans ?_
  refine zif_c (fun h0_ => ?_) (fun h0_ => ?_)
  · rfl
  · refine (Q_aload_n zm_159 (Or.inl (by decide)) D159_64 rfl).trans ?_
    refine (Q_bipush (v := 41) zm_159 (Or.inl (by decide)) D159_65 (by decide)).trans ?_
    exact Q_callv (as := [.int (41 : Int32)]) (b := 127) (rest := []) zm_159 (Or.inl (by decide)) D159_67 zc_10_258 rfl zk_127.1 (by decide) (by decide +kernel) (by decide) (by simp [zcat, Value.category]) zm_139 rfl

theorem b159_176 {d : Nat} {i1 : Int32} {s1 : Int32} {ia : Nat → Nat → Int32} {la : Nat → Nat → Int64} {pl dr : Nat} {cp : Option Nat} {cw : Option Nat} {rp : Option Nat} {K : Option Value → zHP → Prop}  : zWP (d + 1) 159 176 [some (.ref 127), some (.int i1)] [.int s1, .ref 127] (ia, la, zRA pl dr cp cw rp) K = (if i1 = 0 then zWM d 152 [.ref 127, .int s1, .int ((ia 127 25) - (13 : Int32))] (ia, la, zRA pl dr cp cw rp) (zK (d + 1) 159 197 [some (.ref 127), some (.int i1)] [] K) else zWM d 152 [.ref 127, .int s1, .int (ia 127 25)] (ia, la, zRA pl dr cp cw rp) (zK (d + 1) 159 197 [some (.ref 127), some (.int i1)] [] K)) := by
  refine (Q_iload_n zm_159 (Or.inl (by decide)) D159_176 rfl).trans ?_
  refine (Q_if_eq (tgt := 187) zm_159 (Or.inl (by decide)) D159_177 (by decide)).trans ?_
  refine zif_c (fun h0_ => ?_) (fun h0_ => ?_)
  · refine (Q_aload_n zm_159 (Or.inl (by decide)) D159_187 rfl).trans ?_
    refine (Q_getI zm_159 (Or.inl (by decide)) D159_188 zf_10_180 (Or.inl zs_10_25) zk_127.1).trans ?_
    refine (Q_bipush (v := 13) zm_159 (Or.inl (by decide)) D159_191 (by decide)).trans ?_
    refine (Q_isub zm_159 (Or.inl (by decide)) D159_193).trans ?_
    exact Q_callv (as := [.int s1, .int ((ia 127 25) - (13 : Int32))]) (b := 127) (rest := []) zm_159 (Or.inl (by decide)) D159_194 zc_10_279 rfl zk_127.1 (by decide) (by decide +kernel) (by decide) (by simp [zcat, Value.category]) zm_152 rfl
  · refine (Q_aload_n zm_159 (Or.inl (by decide)) D159_180 rfl).trans ?_
    refine (Q_getI zm_159 (Or.inl (by decide)) D159_181 zf_10_180 (Or.inl zs_10_25) zk_127.1).trans ?_
    refine (Q_goto (tgt := 194) zm_159 (Or.inl (by decide)) D159_184 (by decide)).trans ?_
    exact Q_callv (as := [.int s1, .int (ia 127 25)]) (b := 127) (rest := []) zm_159 (Or.inl (by decide)) D159_194 zc_10_279 rfl zk_127.1 (by decide) (by decide +kernel) (by decide) (by simp [zcat, Value.category]) zm_152 rfl

theorem b159_78 {d : Nat}  {ia : Nat → Nat → Int32} {la : Nat → Nat → Int64} {pl dr : Nat} {cp : Option Nat} {cw : Option Nat} {rp : Option Nat} {K : Option Value → zHP → Prop}  : zWP (d + 1) 159 78 [some (.ref 127), none] [] (ia, la, zRA pl dr cp cw rp) K = (if (ia 127 26) = 0 then zWM d 133 [.ref 127] ((zu ia 127 30 ((ia 127 30) - (1 : Int32))), la, zRA pl dr cp cw rp) (zK (d + 1) 159 100 [some (.ref 127), none] [] K) else K none (ia, la, zRA pl dr cp cw rp)) := by
  refine (Q_aload_n zm_159 (Or.inl (by decide)) D159_78 rfl).trans ?_
  refine (Q_getI zm_159 (Or.inl (by decide)) D159_79 zf_10_205 (Or.inl zs_10_26) zk_127.1).trans ?_
  refine (Q_if_eq (tgt := 86) zm_159 (Or.inl (by decide)) D159_82 (by decide)).trans ?_
  refine zif_c (fun h0_ => ?_) (fun h0_ => ?_)
  · refine (Q_aload_n zm_159 (Or.inl (by decide)) D159_86 rfl).trans ?_
    refine (Q_dup zm_159 (Or.inl (by decide)) D159_87 rfl).trans ?_
    refine (Q_getI zm_159 (Or.inl (by decide)) D159_88 zf_10_294 (Or.inl zs_10_30) zk_127.1).trans ?_
    refine (Q_iconst (v := 1) zm_159 (Or.inl (by decide)) D159_91 (by decide)).trans ?_
    refine (Q_isub zm_159 (Or.inl (by decide)) D159_92).trans ?_
    refine (Q_putI zm_159 (Or.inl (by decide)) D159_93 zf_10_294 zs_10_30 rfl zk_127.1).trans ?_
    refine (Q_aload_n zm_159 (Or.inl (by decide)) D159_96 rfl).trans ?_
    exact Q_callv (as := []) (b := 127) (rest := []) zm_159 (Or.inl (by decide)) D159_97 zc_10_211 rfl zk_127.1 (by decide) (by decide +kernel) (by decide) (by simp [zcat, Value.category]) zm_133 rfl
  · exact Q_return zm_159 (Or.inl (by decide)) D159_85 rfl

theorem b159_70 {d : Nat} {s0 : Int32} {ia : Nat → Nat → Int32} {la : Nat → Nat → Int64} {pl dr : Nat} {cp : Option Nat} {cw : Option Nat} {rp : Option Nat} {K : Option Value → zHP → Prop}  : zWP (d + 1) 159 70 [some (.ref 127), none] [.int s0] (ia, la, zRA pl dr cp cw rp) K = (if ¬ s0 = 0 then zWP (d + 1) 159 78 [some (.ref 127), none] [] (ia, la, zRA pl dr cp cw rp) K else zWM d 137 [.ref 127, .int (1 : Int32)] (ia, la, zRA pl dr cp cw rp) (zK (d + 1) 159 78 [some (.ref 127), none] [] K)) := by
  refine (Q_if_ne (tgt := 78) zm_159 (Or.inl (by decide)) D159_70 (by decide)).trans ?_
  refine zif_c (fun h0_ => ?_) (fun h0_ => ?_)
  · rfl
  · refine (Q_aload_n zm_159 (Or.inl (by decide)) D159_73 rfl).trans ?_
    refine (Q_iconst (v := 1) zm_159 (Or.inl (by decide)) D159_74 (by decide)).trans ?_
    exact Q_callv (as := [.int (1 : Int32)]) (b := 127) (rest := []) zm_159 (Or.inl (by decide)) D159_75 zc_10_214 rfl zk_127.1 (by decide) (by decide +kernel) (by decide) (by simp [zcat, Value.category]) zm_137 rfl

theorem b159_197 {d : Nat} {i1 : Int32} {ia : Nat → Nat → Int32} {la : Nat → Nat → Int64} {pl dr : Nat} {cp : Option Nat} {cw : Option Nat} {rp : Option Nat} {K : Option Value → zHP → Prop}  : zWP (d + 1) 159 197 [some (.ref 127), some (.int i1)] [] (ia, la, zRA pl dr cp cw rp) K = zWM d 140 [.ref 127] (ia, la, zRA pl dr cp cw rp) (zK (d + 1) 159 201 [some (.ref 127), some (.int i1)] [] K) := by
  refine (Q_aload_n zm_159 (Or.inl (by decide)) D159_197 rfl).trans ?_
  exact Q_callv (as := []) (b := 127) (rest := []) zm_159 (Or.inl (by decide)) D159_198 zc_10_228 rfl zk_127.1 (by decide) (by decide +kernel) (by decide) (by simp [zcat, Value.category]) zm_140 rfl

theorem b159_100 {d : Nat}  {ia : Nat → Nat → Int32} {la : Nat → Nat → Int64} {pl dr : Nat} {cp : Option Nat} {cw : Option Nat} {rp : Option Nat} {K : Option Value → zHP → Prop}  : zWP d 159 100 [some (.ref 127), none] [] (ia, la, zRA pl dr cp cw rp) K = K none (ia, la, zRA pl dr cp cw rp) := by
  exact Q_return zm_159 (Or.inl (by decide)) D159_100 rfl

theorem b159_201 {d : Nat} {i1 : Int32} {ia : Nat → Nat → Int32} {la : Nat → Nat → Int64} {pl dr : Nat} {cp : Option Nat} {cw : Option Nat} {rp : Option Nat} {K : Option Value → zHP → Prop}  : zWP d 159 201 [some (.ref 127), some (.int i1)] [] (ia, la, zRA pl dr cp cw rp) K = K none (ia, la, zRA pl dr cp cw rp) := by
  exact Q_return zm_159 (Or.inl (by decide)) D159_201 rfl

/-! HandsLetModel.half([I)V -/
theorem D160_0 : decode prog_12_method_34_code 0 = .ok (.aload_n 0, 1) := by decide +kernel
theorem D160_1 : decode prog_12_method_34_code 1 = .ok (.arraylength, 1) := by decide +kernel
theorem D160_2 : decode prog_12_method_34_code 2 = .ok (.iconst 2, 1) := by decide +kernel
theorem D160_3 : decode prog_12_method_34_code 3 = .ok (.idiv, 1) := by decide +kernel
theorem D160_4 : decode prog_12_method_34_code 4 = .ok (.istore_n 1, 1) := by decide +kernel
theorem D160_5 : decode prog_12_method_34_code 5 = .ok (.iconst 0, 1) := by decide +kernel
theorem D160_6 : decode prog_12_method_34_code 6 = .ok (.istore_n 2, 1) := by decide +kernel
theorem D160_7 : decode prog_12_method_34_code 7 = .ok (.iload_n 2, 1) := by decide +kernel
theorem D160_8 : decode prog_12_method_34_code 8 = .ok (.iload_n 1, 1) := by decide +kernel
theorem D160_9 : decode prog_12_method_34_code 9 = .ok (.if_icmp .ge 17, 3) := by decide +kernel
theorem D160_12 : decode prog_12_method_34_code 12 = .ok (.aload_n 0, 1) := by decide +kernel
theorem D160_13 : decode prog_12_method_34_code 13 = .ok (.iload_n 2, 1) := by decide +kernel
theorem D160_14 : decode prog_12_method_34_code 14 = .ok (.aload_n 0, 1) := by decide +kernel
theorem D160_15 : decode prog_12_method_34_code 15 = .ok (.iload_n 1, 1) := by decide +kernel
theorem D160_16 : decode prog_12_method_34_code 16 = .ok (.iload_n 2, 1) := by decide +kernel
theorem D160_17 : decode prog_12_method_34_code 17 = .ok (.iadd, 1) := by decide +kernel
theorem D160_18 : decode prog_12_method_34_code 18 = .ok (.iaload, 1) := by decide +kernel
theorem D160_19 : decode prog_12_method_34_code 19 = .ok (.iastore, 1) := by decide +kernel
theorem D160_20 : decode prog_12_method_34_code 20 = .ok (.iinc 2 1, 3) := by decide +kernel
theorem D160_23 : decode prog_12_method_34_code 23 = .ok (.goto (-16), 3) := by decide +kernel
theorem D160_26 : decode prog_12_method_34_code 26 = .ok (.return_, 1) := by decide +kernel

theorem b160_0 {d : Nat} {r0 : Nat} {ia : Nat → Nat → Int32} {la : Nat → Nat → Int64} {pl dr : Nat} {cp : Option Nat} {cw : Option Nat} {rp : Option Nat} {K : Option Value → zHP → Prop}  : zWP d 160 0 [some (.ref r0), none, none] [] (ia, la, zRA pl dr cp cw rp) K = ((100 ≤ zkd r0 ∧ zkd r0 < 105) ∧ zWP d 160 7 [some (.ref r0), some (.int ((Int32.ofNat (zln r0)) / (2 : Int32))), some (.int (0 : Int32))] [] (ia, la, zRA pl dr cp cw rp) K) := by
  refine (Q_aload_n zm_160 (Or.inl (by decide)) D160_0 rfl).trans ?_
  refine (Q_alenV zm_160 (Or.inl (by decide)) D160_1 (by decide)).trans ?_
  refine zand_c (fun h0_ => ?_)
  refine (Q_iconst (v := 2) zm_160 (Or.inl (by decide)) D160_2 (by decide)).trans ?_
  refine (Q_idiv zm_160 (Or.inl (by decide)) D160_3 (by decide)).trans ?_
  refine (Q_istore_n (ls' := [some (.ref r0), some (.int ((Int32.ofNat (zln r0)) / (2 : Int32))), none]) zm_160 (Or.inl (by decide)) D160_4 rfl (Nat.le_of_ble_eq_true rfl) rfl).trans ?_
  refine (Q_iconst (v := 0) zm_160 (Or.inl (by decide)) D160_5 (by decide)).trans ?_
  refine (Q_istore_n (ls' := [some (.ref r0), some (.int ((Int32.ofNat (zln r0)) / (2 : Int32))), some (.int (0 : Int32))]) zm_160 (Or.inl (by decide)) D160_6 rfl (Nat.le_of_ble_eq_true rfl) rfl).trans ?_
  rfl

theorem b160_7 {d : Nat} {r0 : Nat} {i1 : Int32} {i2 : Int32} {ia : Nat → Nat → Int32} {la : Nat → Nat → Int64} {pl dr : Nat} {cp : Option Nat} {cw : Option Nat} {rp : Option Nat} {K : Option Value → zHP → Prop}  : zWP d 160 7 [some (.ref r0), some (.int i1), some (.int i2)] [] (ia, la, zRA pl dr cp cw rp) K = (if i1 ≤ i2 then K none (ia, la, zRA pl dr cp cw rp) else ((zkd r0 = 100 ∧ vp_in (i1 + i2) (zln r0)) ∧ ((zkd r0 = 100 ∧ vp_in i2 (zln r0)) ∧ zWP d 160 7 [some (.ref r0), some (.int i1), some (.int (i2 + (1 : Int32)))] [] ((zu ia r0 (i2).toNatClampNeg (ia r0 ((i1 + i2)).toNatClampNeg)), la, zRA pl dr cp cw rp) K))) := by
  refine (Q_iload_n zm_160 (Or.inl (by decide)) D160_7 rfl).trans ?_
  refine (Q_iload_n zm_160 (Or.inl (by decide)) D160_8 rfl).trans ?_
  refine (Q_ic_ge (tgt := 26) zm_160 (Or.inl (by decide)) D160_9 (by decide)).trans ?_
  refine zif_c (fun h0_ => ?_) (fun h0_ => ?_)
  · exact Q_return zm_160 (Or.inl (by decide)) D160_26 rfl
  · refine (Q_aload_n zm_160 (Or.inl (by decide)) D160_12 rfl).trans ?_
    refine (Q_iload_n zm_160 (Or.inl (by decide)) D160_13 rfl).trans ?_
    refine (Q_aload_n zm_160 (Or.inl (by decide)) D160_14 rfl).trans ?_
    refine (Q_iload_n zm_160 (Or.inl (by decide)) D160_15 rfl).trans ?_
    refine (Q_iload_n zm_160 (Or.inl (by decide)) D160_16 rfl).trans ?_
    refine (Q_iadd zm_160 (Or.inl (by decide)) D160_17).trans ?_
    refine (Q_ialoadV zm_160 (Or.inl (by decide)) D160_18 (by decide)).trans ?_
    refine zand_c (fun h1_ => ?_)
    refine (Q_iastoreV zm_160 (Or.inl (by decide)) D160_19).trans ?_
    refine zand_c (fun h2_ => ?_)
    refine (Q_iinc (v := 1) (ls' := [some (.ref r0), some (.int i1), some (.int (i2 + (1 : Int32)))]) zm_160 (Or.inl (by decide)) D160_20 rfl rfl (by decide) rfl).trans ?_
    refine (Q_goto (tgt := 7) zm_160 (Or.inl (by decide)) D160_23 (by decide)).trans ?_
    rfl

/-! HandsLetModel.text(I)I -/
theorem D161_0 : decode prog_12_method_35_code 0 = .ok (.aload_n 0, 1) := by decide +kernel
theorem D161_1 : decode prog_12_method_35_code 1 = .ok (.iconst 0, 1) := by decide +kernel
theorem D161_2 : decode prog_12_method_35_code 2 = .ok (.putfield 151, 3) := by decide +kernel
theorem D161_5 : decode prog_12_method_35_code 5 = .ok (.iload_n 1, 1) := by decide +kernel
theorem D161_6 : decode prog_12_method_35_code 6 = .ok (.ifCond .lt 11, 3) := by decide +kernel
theorem D161_9 : decode prog_12_method_35_code 9 = .ok (.iload_n 1, 1) := by decide +kernel
theorem D161_10 : decode prog_12_method_35_code 10 = .ok (.aload_n 0, 1) := by decide +kernel
theorem D161_11 : decode prog_12_method_35_code 11 = .ok (.getfield 154, 3) := by decide +kernel
theorem D161_14 : decode prog_12_method_35_code 14 = .ok (.if_icmp .le 6, 3) := by decide +kernel
theorem D161_17 : decode prog_12_method_35_code 17 = .ok (.bipush (-2), 2) := by decide +kernel
theorem D161_19 : decode prog_12_method_35_code 19 = .ok (.ireturn, 1) := by decide +kernel
theorem D161_20 : decode prog_12_method_35_code 20 = .ok (.aload_n 0, 1) := by decide +kernel
theorem D161_21 : decode prog_12_method_35_code 21 = .ok (.iload_n 1, 1) := by decide +kernel
theorem D161_22 : decode prog_12_method_35_code 22 = .ok (.putfield 160, 3) := by decide +kernel
theorem D161_25 : decode prog_12_method_35_code 25 = .ok (.aload_n 0, 1) := by decide +kernel
theorem D161_26 : decode prog_12_method_35_code 26 = .ok (.iconst 0, 1) := by decide +kernel
theorem D161_27 : decode prog_12_method_35_code 27 = .ok (.putfield 154, 3) := by decide +kernel
theorem D161_30 : decode prog_12_method_35_code 30 = .ok (.aload_n 0, 1) := by decide +kernel
theorem D161_31 : decode prog_12_method_35_code 31 = .ok (.iconst 0, 1) := by decide +kernel
theorem D161_32 : decode prog_12_method_35_code 32 = .ok (.putfield 157, 3) := by decide +kernel
theorem D161_35 : decode prog_12_method_35_code 35 = .ok (.aload_n 0, 1) := by decide +kernel
theorem D161_36 : decode prog_12_method_35_code 36 = .ok (.iconst 0, 1) := by decide +kernel
theorem D161_37 : decode prog_12_method_35_code 37 = .ok (.putfield 205, 3) := by decide +kernel
theorem D161_40 : decode prog_12_method_35_code 40 = .ok (.aload_n 0, 1) := by decide +kernel
theorem D161_41 : decode prog_12_method_35_code 41 = .ok (.iconst (-1), 1) := by decide +kernel
theorem D161_42 : decode prog_12_method_35_code 42 = .ok (.putfield 208, 3) := by decide +kernel
theorem D161_45 : decode prog_12_method_35_code 45 = .ok (.iconst 0, 1) := by decide +kernel
theorem D161_46 : decode prog_12_method_35_code 46 = .ok (.istore_n 2, 1) := by decide +kernel
theorem D161_47 : decode prog_12_method_35_code 47 = .ok (.iload_n 2, 1) := by decide +kernel
theorem D161_48 : decode prog_12_method_35_code 48 = .ok (.bipush 7, 2) := by decide +kernel
theorem D161_50 : decode prog_12_method_35_code 50 = .ok (.if_icmp .ge 25, 3) := by decide +kernel
theorem D161_53 : decode prog_12_method_35_code 53 = .ok (.aload_n 0, 1) := by decide +kernel
theorem D161_54 : decode prog_12_method_35_code 54 = .ok (.iload_n 2, 1) := by decide +kernel
theorem D161_55 : decode prog_12_method_35_code 55 = .ok (.iload_n 2, 1) := by decide +kernel
theorem D161_56 : decode prog_12_method_35_code 56 = .ok (.iconst 3, 1) := by decide +kernel
theorem D161_57 : decode prog_12_method_35_code 57 = .ok (.if_icmp .ne 8, 3) := by decide +kernel
theorem D161_60 : decode prog_12_method_35_code 60 = .ok (.bipush 20, 2) := by decide +kernel
theorem D161_62 : decode prog_12_method_35_code 62 = .ok (.goto 4, 3) := by decide +kernel
theorem D161_65 : decode prog_12_method_35_code 65 = .ok (.iconst 0, 1) := by decide +kernel
theorem D161_66 : decode prog_12_method_35_code 66 = .ok (.invokevirtual 245, 3) := by decide +kernel
theorem D161_69 : decode prog_12_method_35_code 69 = .ok (.iinc 2 1, 3) := by decide +kernel
theorem D161_72 : decode prog_12_method_35_code 72 = .ok (.goto (-25), 3) := by decide +kernel
theorem D161_75 : decode prog_12_method_35_code 75 = .ok (.iconst 3, 1) := by decide +kernel
theorem D161_76 : decode prog_12_method_35_code 76 = .ok (.istore_n 2, 1) := by decide +kernel
theorem D161_77 : decode prog_12_method_35_code 77 = .ok (.iload_n 2, 1) := by decide +kernel
theorem D161_78 : decode prog_12_method_35_code 78 = .ok (.bipush 6, 2) := by decide +kernel
theorem D161_80 : decode prog_12_method_35_code 80 = .ok (.if_icmp .ge 23, 3) := by decide +kernel
theorem D161_83 : decode prog_12_method_35_code 83 = .ok (.aload_n 0, 1) := by decide +kernel
theorem D161_84 : decode prog_12_method_35_code 84 = .ok (.getfield 49, 3) := by decide +kernel
theorem D161_87 : decode prog_12_method_35_code 87 = .ok (.iload_n 2, 1) := by decide +kernel
theorem D161_88 : decode prog_12_method_35_code 88 = .ok (.iconst 0, 1) := by decide +kernel
theorem D161_89 : decode prog_12_method_35_code 89 = .ok (.iastore, 1) := by decide +kernel
theorem D161_90 : decode prog_12_method_35_code 90 = .ok (.aload_n 0, 1) := by decide +kernel
theorem D161_91 : decode prog_12_method_35_code 91 = .ok (.getfield 52, 3) := by decide +kernel
theorem D161_94 : decode prog_12_method_35_code 94 = .ok (.iload_n 2, 1) := by decide +kernel
theorem D161_95 : decode prog_12_method_35_code 95 = .ok (.iconst 0, 1) := by decide +kernel
theorem D161_96 : decode prog_12_method_35_code 96 = .ok (.iastore, 1) := by decide +kernel
theorem D161_97 : decode prog_12_method_35_code 97 = .ok (.iinc 2 1, 3) := by decide +kernel
theorem D161_100 : decode prog_12_method_35_code 100 = .ok (.goto (-23), 3) := by decide +kernel
theorem D161_103 : decode prog_12_method_35_code 103 = .ok (.aload_n 0, 1) := by decide +kernel
theorem D161_104 : decode prog_12_method_35_code 104 = .ok (.iconst 0, 1) := by decide +kernel
theorem D161_105 : decode prog_12_method_35_code 105 = .ok (.putfield 234, 3) := by decide +kernel
theorem D161_108 : decode prog_12_method_35_code 108 = .ok (.aload_n 0, 1) := by decide +kernel
theorem D161_109 : decode prog_12_method_35_code 109 = .ok (.iconst 0, 1) := by decide +kernel
theorem D161_110 : decode prog_12_method_35_code 110 = .ok (.putfield 261, 3) := by decide +kernel
theorem D161_113 : decode prog_12_method_35_code 113 = .ok (.aload_n 0, 1) := by decide +kernel
theorem D161_114 : decode prog_12_method_35_code 114 = .ok (.iconst 0, 1) := by decide +kernel
theorem D161_115 : decode prog_12_method_35_code 115 = .ok (.putfield 294, 3) := by decide +kernel
theorem D161_118 : decode prog_12_method_35_code 118 = .ok (.aload_n 0, 1) := by decide +kernel
theorem D161_119 : decode prog_12_method_35_code 119 = .ok (.iconst 0, 1) := by decide +kernel
theorem D161_120 : decode prog_12_method_35_code 120 = .ok (.putfield 267, 3) := by decide +kernel
theorem D161_123 : decode prog_12_method_35_code 123 = .ok (.aload_n 0, 1) := by decide +kernel
theorem D161_124 : decode prog_12_method_35_code 124 = .ok (.invokevirtual 211, 3) := by decide +kernel
theorem D161_127 : decode prog_12_method_35_code 127 = .ok (.aload_n 0, 1) := by decide +kernel
theorem D161_128 : decode prog_12_method_35_code 128 = .ok (.getfield 205, 3) := by decide +kernel
theorem D161_131 : decode prog_12_method_35_code 131 = .ok (.ifCond .ne 18, 3) := by decide +kernel
theorem D161_134 : decode prog_12_method_35_code 134 = .ok (.aload_n 0, 1) := by decide +kernel
theorem D161_135 : decode prog_12_method_35_code 135 = .ok (.getfield 170, 3) := by decide +kernel
theorem D161_138 : decode prog_12_method_35_code 138 = .ok (.iconst 4, 1) := by decide +kernel
theorem D161_139 : decode prog_12_method_35_code 139 = .ok (.if_icmp .eq 10, 3) := by decide +kernel
theorem D161_142 : decode prog_12_method_35_code 142 = .ok (.aload_n 0, 1) := by decide +kernel
theorem D161_143 : decode prog_12_method_35_code 143 = .ok (.invokevirtual 297, 3) := by decide +kernel
theorem D161_146 : decode prog_12_method_35_code 146 = .ok (.goto (-19), 3) := by decide +kernel
theorem D161_149 : decode prog_12_method_35_code 149 = .ok (.aload_n 0, 1) := by decide +kernel
theorem D161_150 : decode prog_12_method_35_code 150 = .ok (.aload_n 0, 1) := by decide +kernel
theorem D161_151 : decode prog_12_method_35_code 151 = .ok (.getfield 205, 3) := by decide +kernel
theorem D161_154 : decode prog_12_method_35_code 154 = .ok (.putfield 300, 3) := by decide +kernel
theorem D161_157 : decode prog_12_method_35_code 157 = .ok (.aload_n 0, 1) := by decide +kernel
theorem D161_158 : decode prog_12_method_35_code 158 = .ok (.aload_n 0, 1) := by decide +kernel
theorem D161_159 : decode prog_12_method_35_code 159 = .ok (.getfield 208, 3) := by decide +kernel
theorem D161_162 : decode prog_12_method_35_code 162 = .ok (.putfield 61, 3) := by decide +kernel
theorem D161_165 : decode prog_12_method_35_code 165 = .ok (.aload_n 0, 1) := by decide +kernel
theorem D161_166 : decode prog_12_method_35_code 166 = .ok (.getfield 205, 3) := by decide +kernel
theorem D161_169 : decode prog_12_method_35_code 169 = .ok (.ifCond .eq 5, 3) := by decide +kernel
theorem D161_172 : decode prog_12_method_35_code 172 = .ok (.iconst (-1), 1) := by decide +kernel
theorem D161_173 : decode prog_12_method_35_code 173 = .ok (.ireturn, 1) := by decide +kernel
theorem D161_174 : decode prog_12_method_35_code 174 = .ok (.aload_n 0, 1) := by decide +kernel
theorem D161_175 : decode prog_12_method_35_code 175 = .ok (.getfield 13, 3) := by decide +kernel
theorem D161_178 : decode prog_12_method_35_code 178 = .ok (.invokestatic 303, 3) := by decide +kernel
theorem D161_181 : decode prog_12_method_35_code 181 = .ok (.aload_n 0, 1) := by decide +kernel
theorem D161_182 : decode prog_12_method_35_code 182 = .ok (.getfield 16, 3) := by decide +kernel
theorem D161_185 : decode prog_12_method_35_code 185 = .ok (.invokestatic 303, 3) := by decide +kernel
theorem D161_188 : decode prog_12_method_35_code 188 = .ok (.aload_n 0, 1) := by decide +kernel
theorem D161_189 : decode prog_12_method_35_code 189 = .ok (.getfield 19, 3) := by decide +kernel
theorem D161_192 : decode prog_12_method_35_code 192 = .ok (.invokestatic 303, 3) := by decide +kernel
theorem D161_195 : decode prog_12_method_35_code 195 = .ok (.aload_n 0, 1) := by decide +kernel
theorem D161_196 : decode prog_12_method_35_code 196 = .ok (.getfield 22, 3) := by decide +kernel
theorem D161_199 : decode prog_12_method_35_code 199 = .ok (.invokestatic 303, 3) := by decide +kernel
theorem D161_202 : decode prog_12_method_35_code 202 = .ok (.aload_n 0, 1) := by decide +kernel
theorem D161_203 : decode prog_12_method_35_code 203 = .ok (.getfield 25, 3) := by decide +kernel
theorem D161_206 : decode prog_12_method_35_code 206 = .ok (.invokestatic 303, 3) := by decide +kernel
theorem D161_209 : decode prog_12_method_35_code 209 = .ok (.aload_n 0, 1) := by decide +kernel
theorem D161_210 : decode prog_12_method_35_code 210 = .ok (.getfield 28, 3) := by decide +kernel
theorem D161_213 : decode prog_12_method_35_code 213 = .ok (.invokestatic 303, 3) := by decide +kernel
theorem D161_216 : decode prog_12_method_35_code 216 = .ok (.aload_n 0, 1) := by decide +kernel
theorem D161_217 : decode prog_12_method_35_code 217 = .ok (.getfield 31, 3) := by decide +kernel
theorem D161_220 : decode prog_12_method_35_code 220 = .ok (.invokestatic 303, 3) := by decide +kernel
theorem D161_223 : decode prog_12_method_35_code 223 = .ok (.aload_n 0, 1) := by decide +kernel
theorem D161_224 : decode prog_12_method_35_code 224 = .ok (.getfield 34, 3) := by decide +kernel
theorem D161_227 : decode prog_12_method_35_code 227 = .ok (.invokestatic 303, 3) := by decide +kernel
theorem D161_230 : decode prog_12_method_35_code 230 = .ok (.aload_n 0, 1) := by decide +kernel
theorem D161_231 : decode prog_12_method_35_code 231 = .ok (.getfield 37, 3) := by decide +kernel
theorem D161_234 : decode prog_12_method_35_code 234 = .ok (.invokestatic 303, 3) := by decide +kernel
theorem D161_237 : decode prog_12_method_35_code 237 = .ok (.aload_n 0, 1) := by decide +kernel
theorem D161_238 : decode prog_12_method_35_code 238 = .ok (.getfield 40, 3) := by decide +kernel
theorem D161_241 : decode prog_12_method_35_code 241 = .ok (.invokestatic 303, 3) := by decide +kernel
theorem D161_244 : decode prog_12_method_35_code 244 = .ok (.aload_n 0, 1) := by decide +kernel
theorem D161_245 : decode prog_12_method_35_code 245 = .ok (.getfield 43, 3) := by decide +kernel
theorem D161_248 : decode prog_12_method_35_code 248 = .ok (.invokestatic 303, 3) := by decide +kernel
theorem D161_251 : decode prog_12_method_35_code 251 = .ok (.aload_n 0, 1) := by decide +kernel
theorem D161_252 : decode prog_12_method_35_code 252 = .ok (.getfield 46, 3) := by decide +kernel
theorem D161_255 : decode prog_12_method_35_code 255 = .ok (.invokestatic 303, 3) := by decide +kernel
theorem D161_258 : decode prog_12_method_35_code 258 = .ok (.aload_n 0, 1) := by decide +kernel
theorem D161_259 : decode prog_12_method_35_code 259 = .ok (.getfield 49, 3) := by decide +kernel
theorem D161_262 : decode prog_12_method_35_code 262 = .ok (.invokestatic 303, 3) := by decide +kernel
theorem D161_265 : decode prog_12_method_35_code 265 = .ok (.aload_n 0, 1) := by decide +kernel
theorem D161_266 : decode prog_12_method_35_code 266 = .ok (.getfield 52, 3) := by decide +kernel
theorem D161_269 : decode prog_12_method_35_code 269 = .ok (.invokestatic 303, 3) := by decide +kernel
theorem D161_272 : decode prog_12_method_35_code 272 = .ok (.aload_n 0, 1) := by decide +kernel
theorem D161_273 : decode prog_12_method_35_code 273 = .ok (.getfield 55, 3) := by decide +kernel
theorem D161_276 : decode prog_12_method_35_code 276 = .ok (.invokestatic 303, 3) := by decide +kernel
theorem D161_279 : decode prog_12_method_35_code 279 = .ok (.aload_n 0, 1) := by decide +kernel
theorem D161_280 : decode prog_12_method_35_code 280 = .ok (.getfield 58, 3) := by decide +kernel
theorem D161_283 : decode prog_12_method_35_code 283 = .ok (.invokestatic 303, 3) := by decide +kernel
theorem D161_286 : decode prog_12_method_35_code 286 = .ok (.aload_n 0, 1) := by decide +kernel
theorem D161_287 : decode prog_12_method_35_code 287 = .ok (.iconst 0, 1) := by decide +kernel
theorem D161_288 : decode prog_12_method_35_code 288 = .ok (.putfield 307, 3) := by decide +kernel
theorem D161_291 : decode prog_12_method_35_code 291 = .ok (.aload_n 0, 1) := by decide +kernel
theorem D161_292 : decode prog_12_method_35_code 292 = .ok (.iconst (-1), 1) := by decide +kernel
theorem D161_293 : decode prog_12_method_35_code 293 = .ok (.putfield 123, 3) := by decide +kernel
theorem D161_296 : decode prog_12_method_35_code 296 = .ok (.aload_n 0, 1) := by decide +kernel
theorem D161_297 : decode prog_12_method_35_code 297 = .ok (.iconst 0, 1) := by decide +kernel
theorem D161_298 : decode prog_12_method_35_code 298 = .ok (.putfield 310, 3) := by decide +kernel
theorem D161_301 : decode prog_12_method_35_code 301 = .ok (.aload_n 0, 1) := by decide +kernel
theorem D161_302 : decode prog_12_method_35_code 302 = .ok (.iconst 0, 1) := by decide +kernel
theorem D161_303 : decode prog_12_method_35_code 303 = .ok (.putfield 314, 3) := by decide +kernel
theorem D161_306 : decode prog_12_method_35_code 306 = .ok (.aload_n 0, 1) := by decide +kernel
theorem D161_307 : decode prog_12_method_35_code 307 = .ok (.invokevirtual 148, 3) := by decide +kernel
theorem D161_310 : decode prog_12_method_35_code 310 = .ok (.aload_n 0, 1) := by decide +kernel
theorem D161_311 : decode prog_12_method_35_code 311 = .ok (.getfield 261, 3) := by decide +kernel
theorem D161_314 : decode prog_12_method_35_code 314 = .ok (.ireturn, 1) := by decide +kernel

theorem b161_0 {d : Nat} {i1 : Int32} {ia : Nat → Nat → Int32} {la : Nat → Nat → Int64} {pl dr : Nat} {cp : Option Nat} {cw : Option Nat} {rp : Option Nat} {K : Option Value → zHP → Prop}  : zWP d 161 0 [some (.ref 127), some (.int i1), none] [] (ia, la, zRA pl dr cp cw rp) K = (if i1 < 0 then K (some (.int (-2 : Int32))) ((zu ia 127 0 (0 : Int32)), la, zRA pl dr cp cw rp) else (if i1 ≤ ((zu ia 127 0 (0 : Int32)) 127 2) then zWP d 161 47 [some (.ref 127), some (.int i1), some (.int (0 : Int32))] [] ((zu (zu (zu (zu (zu (zu ia 127 0 (0 : Int32)) 127 21 i1) 127 2 (0 : Int32)) 127 22 (0 : Int32)) 127 26 (0 : Int32)) 127 27 (-1 : Int32)), la, zRA pl dr cp cw rp) K else K (some (.int (-2 : Int32))) ((zu ia 127 0 (0 : Int32)), la, zRA pl dr cp cw rp))) := by
  refine (Q_aload_n zm_161 (Or.inl (by decide)) D161_0 rfl).trans ?_
  refine (Q_iconst (v := 0) zm_161 (Or.inl (by decide)) D161_1 (by decide)).trans ?_
  refine (Q_putI zm_161 (Or.inl (by decide)) D161_2 zf_10_151 zs_10_0 rfl zk_127.1).trans ?_
  refine (Q_iload_n zm_161 (Or.inl (by decide)) D161_5 rfl).trans ?_
  refine (Q_if_lt (tgt := 17) zm_161 (Or.inl (by decide)) D161_6 (by decide)).trans ?_
  refine zif_c (fun h0_ => ?_) (fun h0_ => ?_)
  · refine (Q_bipush (v := -2) zm_161 (Or.inl (by decide)) D161_17 (by decide)).trans ?_
    exact Q_ireturn zm_161 (Or.inl (by decide)) D161_19 rfl
  · refine (Q_iload_n zm_161 (Or.inl (by decide)) D161_9 rfl).trans ?_
    refine (Q_aload_n zm_161 (Or.inl (by decide)) D161_10 rfl).trans ?_
    refine (Q_getI zm_161 (Or.inl (by decide)) D161_11 zf_10_154 (Or.inl zs_10_2) zk_127.1).trans ?_
    refine (Q_ic_le (tgt := 20) zm_161 (Or.inl (by decide)) D161_14 (by decide)).trans ?_
    refine zif_c (fun h1_ => ?_) (fun h1_ => ?_)
    · refine (Q_aload_n zm_161 (Or.inl (by decide)) D161_20 rfl).trans ?_
      refine (Q_iload_n zm_161 (Or.inl (by decide)) D161_21 rfl).trans ?_
      refine (Q_putI zm_161 (Or.inl (by decide)) D161_22 zf_10_160 zs_10_21 rfl zk_127.1).trans ?_
      refine (Q_aload_n zm_161 (Or.inl (by decide)) D161_25 rfl).trans ?_
      refine (Q_iconst (v := 0) zm_161 (Or.inl (by decide)) D161_26 (by decide)).trans ?_
      refine (Q_putI zm_161 (Or.inl (by decide)) D161_27 zf_10_154 zs_10_2 rfl zk_127.1).trans ?_
      refine (Q_aload_n zm_161 (Or.inl (by decide)) D161_30 rfl).trans ?_
      refine (Q_iconst (v := 0) zm_161 (Or.inl (by decide)) D161_31 (by decide)).trans ?_
      refine (Q_putI zm_161 (Or.inl (by decide)) D161_32 zf_10_157 zs_10_22 rfl zk_127.1).trans ?_
      refine (Q_aload_n zm_161 (Or.inl (by decide)) D161_35 rfl).trans ?_
      refine (Q_iconst (v := 0) zm_161 (Or.inl (by decide)) D161_36 (by decide)).trans ?_
      refine (Q_putI zm_161 (Or.inl (by decide)) D161_37 zf_10_205 zs_10_26 rfl zk_127.1).trans ?_
      refine (Q_aload_n zm_161 (Or.inl (by decide)) D161_40 rfl).trans ?_
      refine (Q_iconst (v := -1) zm_161 (Or.inl (by decide)) D161_41 (by decide)).trans ?_
      refine (Q_putI zm_161 (Or.inl (by decide)) D161_42 zf_10_208 zs_10_27 rfl zk_127.1).trans ?_
      refine (Q_iconst (v := 0) zm_161 (Or.inl (by decide)) D161_45 (by decide)).trans ?_
      refine (Q_istore_n (ls' := [some (.ref 127), some (.int i1), some (.int (0 : Int32))]) zm_161 (Or.inl (by decide)) D161_46 rfl (Nat.le_of_ble_eq_true rfl) rfl).trans ?_
      rfl
    · refine (Q_bipush (v := -2) zm_161 (Or.inl (by decide)) D161_17 (by decide)).trans ?_
      exact Q_ireturn zm_161 (Or.inl (by decide)) D161_19 rfl

theorem b161_47 {d : Nat} {i1 : Int32} {i2 : Int32} {ia : Nat → Nat → Int32} {la : Nat → Nat → Int64} {pl dr : Nat} {cp : Option Nat} {cw : Option Nat} {rp : Option Nat} {K : Option Value → zHP → Prop}  : zWP (d + 1) 161 47 [some (.ref 127), some (.int i1), some (.int i2)] [] (ia, la, zRA pl dr cp cw rp) K = (if (7 : Int32) ≤ i2 then zWP (d + 1) 161 77 [some (.ref 127), some (.int i1), some (.int (3 : Int32))] [] (ia, la, zRA pl dr cp cw rp) K else (if ¬ i2 = (3 : Int32) then zWM d 145 [.ref 127, .int i2, .int (0 : Int32)] (ia, la, zRA pl dr cp cw rp) (zK (d + 1) 161 69 [some (.ref 127), some (.int i1), some (.int i2)] [] K) else zWM d 145 [.ref 127, .int i2, .int (20 : Int32)] (ia, la, zRA pl dr cp cw rp) (zK (d + 1) 161 69 [some (.ref 127), some (.int i1), some (.int i2)] [] K))) := by
  refine (Q_iload_n zm_161 (Or.inl (by decide)) D161_47 rfl).trans ?_
  refine (Q_bipush (v := 7) zm_161 (Or.inl (by decide)) D161_48 (by decide)).trans ?_
  refine (Q_ic_ge (tgt := 75) zm_161 (Or.inl (by decide)) D161_50 (by decide)).trans ?_
  refine zif_c (fun h0_ => ?_) (fun h0_ => ?_)
  · refine (Q_iconst (v := 3) zm_161 (Or.inl (by decide)) D161_75 (by decide)).trans ?_
    refine (Q_istore_n (ls' := [some (.ref 127), some (.int i1), some (.int (3 : Int32))]) zm_161 (Or.inl (by decide)) D161_76 rfl (Nat.le_of_ble_eq_true rfl) rfl).trans ?_
    rfl
  · refine (Q_aload_n zm_161 (Or.inl (by decide)) D161_53 rfl).trans ?_
    refine (Q_iload_n zm_161 (Or.inl (by decide)) D161_54 rfl).trans ?_
    refine (Q_iload_n zm_161 (Or.inl (by decide)) D161_55 rfl).trans ?_
    refine (Q_iconst (v := 3) zm_161 (Or.inl (by decide)) D161_56 (by decide)).trans ?_
    refine (Q_ic_ne (tgt := 65) zm_161 (Or.inl (by decide)) D161_57 (by decide)).trans ?_
    refine zif_c (fun h1_ => ?_) (fun h1_ => ?_)
    · refine (Q_iconst (v := 0) zm_161 (Or.inl (by decide)) D161_65 (by decide)).trans ?_
      exact Q_callv (as := [.int i2, .int (0 : Int32)]) (b := 127) (rest := []) zm_161 (Or.inl (by decide)) D161_66 zc_10_245 rfl zk_127.1 (by decide) (by decide +kernel) (by decide) (by simp [zcat, Value.category]) zm_145 rfl
    · refine (Q_bipush (v := 20) zm_161 (Or.inl (by decide)) D161_60 (by decide)).trans ?_
      refine (Q_goto (tgt := 66) zm_161 (Or.inl (by decide)) D161_62 (by decide)).trans ?_
      exact Q_callv (as := [.int i2, .int (20 : Int32)]) (b := 127) (rest := []) zm_161 (Or.inl (by decide)) D161_66 zc_10_245 rfl zk_127.1 (by decide) (by decide +kernel) (by decide) (by simp [zcat, Value.category]) zm_145 rfl

theorem b161_77 {d : Nat} {i1 : Int32} {i2 : Int32} {ia : Nat → Nat → Int32} {la : Nat → Nat → Int64} {pl dr : Nat} {cp : Option Nat} {cw : Option Nat} {rp : Option Nat} {K : Option Value → zHP → Prop}  : zWP (d + 1) 161 77 [some (.ref 127), some (.int i1), some (.int i2)] [] (ia, la, zRA pl dr cp cw rp) K = (if (6 : Int32) ≤ i2 then zWM d 133 [.ref 127] ((zu (zu (zu (zu ia 127 19 (0 : Int32)) 127 20 (0 : Int32)) 127 30 (0 : Int32)) 127 31 (0 : Int32)), la, zRA pl dr cp cw rp) (zK (d + 1) 161 127 [some (.ref 127), some (.int i1), some (.int i2)] [] K) else (vp_in i2 6 ∧ zWP (d + 1) 161 77 [some (.ref 127), some (.int i1), some (.int (i2 + (1 : Int32)))] [] ((zu (zu ia 141 (i2).toNatClampNeg (0 : Int32)) 142 (i2).toNatClampNeg (0 : Int32)), la, zRA pl dr cp cw rp) K)) := by
  refine (Q_iload_n zm_161 (Or.inl (by decide)) D161_77 rfl).trans ?_
  refine (Q_bipush (v := 6) zm_161 (Or.inl (by decide)) D161_78 (by decide)).trans ?_
  refine (Q_ic_ge (tgt := 103) zm_161 (Or.inl (by decide)) D161_80 (by decide)).trans ?_
  refine zif_c (fun h0_ => ?_) (fun h0_ => ?_)
  · refine (Q_aload_n zm_161 (Or.inl (by decide)) D161_103 rfl).trans ?_
    refine (Q_iconst (v := 0) zm_161 (Or.inl (by decide)) D161_104 (by decide)).trans ?_
    refine (Q_putI zm_161 (Or.inl (by decide)) D161_105 zf_10_234 zs_10_19 rfl zk_127.1).trans ?_
    refine (Q_aload_n zm_161 (Or.inl (by decide)) D161_108 rfl).trans ?_
    refine (Q_iconst (v := 0) zm_161 (Or.inl (by decide)) D161_109 (by decide)).trans ?_
    refine (Q_putI zm_161 (Or.inl (by decide)) D161_110 zf_10_261 zs_10_20 rfl zk_127.1).trans ?_
    refine (Q_aload_n zm_161 (Or.inl (by decide)) D161_113 rfl).trans ?_
    refine (Q_iconst (v := 0) zm_161 (Or.inl (by decide)) D161_114 (by decide)).trans ?_
    refine (Q_putI zm_161 (Or.inl (by decide)) D161_115 zf_10_294 zs_10_30 rfl zk_127.1).trans ?_
    refine (Q_aload_n zm_161 (Or.inl (by decide)) D161_118 rfl).trans ?_
    refine (Q_iconst (v := 0) zm_161 (Or.inl (by decide)) D161_119 (by decide)).trans ?_
    refine (Q_putI zm_161 (Or.inl (by decide)) D161_120 zf_10_267 zs_10_31 rfl zk_127.1).trans ?_
    refine (Q_aload_n zm_161 (Or.inl (by decide)) D161_123 rfl).trans ?_
    exact Q_callv (as := []) (b := 127) (rest := []) zm_161 (Or.inl (by decide)) D161_124 zc_10_211 rfl zk_127.1 (by decide) (by decide +kernel) (by decide) (by simp [zcat, Value.category]) zm_133 rfl
  · refine (Q_aload_n zm_161 (Or.inl (by decide)) D161_83 rfl).trans ?_
    refine (Q_getR (q := 141) zm_161 (Or.inl (by decide)) D161_84 zf_10_49 zs_10_15 zk_127.1 rfl).trans ?_
    refine (Q_iload_n zm_161 (Or.inl (by decide)) D161_87 rfl).trans ?_
    refine (Q_iconst (v := 0) zm_161 (Or.inl (by decide)) D161_88 (by decide)).trans ?_
    refine (Q_iastore zm_161 (Or.inl (by decide)) D161_89 zk_141.1 zk_141.2).trans ?_
    refine zand_c (fun h1_ => ?_)
    refine (Q_aload_n zm_161 (Or.inl (by decide)) D161_90 rfl).trans ?_
    refine (Q_getR (q := 142) zm_161 (Or.inl (by decide)) D161_91 zf_10_52 zs_10_16 zk_127.1 rfl).trans ?_
    refine (Q_iload_n zm_161 (Or.inl (by decide)) D161_94 rfl).trans ?_
    refine (Q_iconst (v := 0) zm_161 (Or.inl (by decide)) D161_95 (by decide)).trans ?_
    refine ((Q_iastore zm_161 (Or.inl (by decide)) D161_96 zk_142.1 zk_142.2).trans (zdrop h1_)).trans ?_
    refine (Q_iinc (v := 1) (ls' := [some (.ref 127), some (.int i1), some (.int (i2 + (1 : Int32)))]) zm_161 (Or.inl (by decide)) D161_97 rfl rfl (by decide) rfl).trans ?_
    refine (Q_goto (tgt := 77) zm_161 (Or.inl (by decide)) D161_100 (by decide)).trans ?_
    rfl

theorem b161_69 {d : Nat} {i1 : Int32} {i2 : Int32} {ia : Nat → Nat → Int32} {la : Nat → Nat → Int64} {pl dr : Nat} {cp : Option Nat} {cw : Option Nat} {rp : Option Nat} {K : Option Value → zHP → Prop}  : zWP d 161 69 [some (.ref 127), some (.int i1), some (.int i2)] [] (ia, la, zRA pl dr cp cw rp) K = zWP d 161 47 [some (.ref 127), some (.int i1), some (.int (i2 + (1 : Int32)))] [] (ia, la, zRA pl dr cp cw rp) K := by
  refine (Q_iinc (v := 1) (ls' := [some (.ref 127), some (.int i1), some (.int (i2 + (1 : Int32)))]) zm_161 (Or.inl (by decide)) D161_69 rfl rfl (by decide) rfl).trans ?_
  refine (Q_goto (tgt := 47) zm_161 (Or.inl (by decide)) D161_72 (by decide)).trans ?_
  rfl

theorem b161_127 {d : Nat} {i1 : Int32} {i2 : Int32} {ia : Nat → Nat → Int32} {la : Nat → Nat → Int64} {pl dr : Nat} {cp : Option Nat} {cw : Option Nat} {rp : Option Nat} {K : Option Value → zHP → Prop}  : zWP (d + 1) 161 127 [some (.ref 127), some (.int i1), some (.int i2)] [] (ia, la, zRA pl dr cp cw rp) K = (if ¬ (ia 127 26) = 0 then zWP (d + 1) 161 149 [some (.ref 127), some (.int i1), some (.int i2)] [] (ia, la, zRA pl dr cp cw rp) K else (if (ia 127 24) = (4 : Int32) then zWP (d + 1) 161 149 [some (.ref 127), some (.int i1), some (.int i2)] [] (ia, la, zRA pl dr cp cw rp) K else zWM d 149 [.ref 127] (ia, la, zRA pl dr cp cw rp) (zK (d + 1) 161 146 [some (.ref 127), some (.int i1), some (.int i2)] [] K))) := by
  refine (Q_aload_n zm_161 (Or.inl (by decide)) D161_127 rfl).trans ?_
  refine (Q_getI zm_161 (Or.inl (by decide)) D161_128 zf_10_205 (Or.inl zs_10_26) zk_127.1).trans ?_
  refine (Q_if_ne (tgt := 149) zm_161 (Or.inl (by decide)) D161_131 (by decide)).trans ?_
  refine zif_c (fun h0_ => ?_) (fun h0_ => ?_)
  · rfl
  · refine (Q_aload_n zm_161 (Or.inl (by decide)) D161_134 rfl).trans ?_
    refine (Q_getI zm_161 (Or.inl (by decide)) D161_135 zf_10_170 (Or.inl zs_10_24) zk_127.1).trans ?_
    refine (Q_iconst (v := 4) zm_161 (Or.inl (by decide)) D161_138 (by decide)).trans ?_
    refine (Q_ic_eq (tgt := 149) zm_161 (Or.inl (by decide)) D161_139 (by decide)).trans ?_
    refine zif_c (fun h1_ => ?_) (fun h1_ => ?_)
    · rfl
    · refine (Q_aload_n zm_161 (Or.inl (by decide)) D161_142 rfl).trans ?_
      exact Q_callv (as := []) (b := 127) (rest := []) zm_161 (Or.inl (by decide)) D161_143 zc_10_297 rfl zk_127.1 (by decide) (by decide +kernel) (by decide) (by simp [zcat, Value.category]) zm_149 rfl

theorem b161_149 {d : Nat} {i1 : Int32} {i2 : Int32} {ia : Nat → Nat → Int32} {la : Nat → Nat → Int64} {pl dr : Nat} {cp : Option Nat} {cw : Option Nat} {rp : Option Nat} {K : Option Value → zHP → Prop}  : zWP (d + 1) 161 149 [some (.ref 127), some (.int i1), some (.int i2)] [] (ia, la, zRA pl dr cp cw rp) K = (if ((zu (zu ia 127 28 (ia 127 26)) 127 29 ((zu ia 127 28 (ia 127 26)) 127 27)) 127 26) = 0 then zWM d 160 [.ref 129] ((zu (zu ia 127 28 (ia 127 26)) 127 29 ((zu ia 127 28 (ia 127 26)) 127 27)), la, zRA pl dr cp cw rp) (zK (d + 1) 161 181 [some (.ref 127), some (.int i1), some (.int i2)] [] K) else K (some (.int (-1 : Int32))) ((zu (zu ia 127 28 (ia 127 26)) 127 29 ((zu ia 127 28 (ia 127 26)) 127 27)), la, zRA pl dr cp cw rp)) := by
  refine (Q_aload_n zm_161 (Or.inl (by decide)) D161_149 rfl).trans ?_
  refine (Q_aload_n zm_161 (Or.inl (by decide)) D161_150 rfl).trans ?_
  refine (Q_getI zm_161 (Or.inl (by decide)) D161_151 zf_10_205 (Or.inl zs_10_26) zk_127.1).trans ?_
  refine (Q_putI zm_161 (Or.inl (by decide)) D161_154 zf_10_300 zs_10_28 rfl zk_127.1).trans ?_
  refine (Q_aload_n zm_161 (Or.inl (by decide)) D161_157 rfl).trans ?_
  refine (Q_aload_n zm_161 (Or.inl (by decide)) D161_158 rfl).trans ?_
  refine (Q_getI zm_161 (Or.inl (by decide)) D161_159 zf_10_208 (Or.inl zs_10_27) zk_127.1).trans ?_
  refine (Q_putI zm_161 (Or.inl (by decide)) D161_162 zf_10_61 zs_10_29 rfl zk_127.1).trans ?_
  refine (Q_aload_n zm_161 (Or.inl (by decide)) D161_165 rfl).trans ?_
  refine (Q_getI zm_161 (Or.inl (by decide)) D161_166 zf_10_205 (Or.inl zs_10_26) zk_127.1).trans ?_
  refine (Q_if_eq (tgt := 174) zm_161 (Or.inl (by decide)) D161_169 (by decide)).trans ?_
  refine zif_c (fun h0_ => ?_) (fun h0_ => ?_)
  · refine (Q_aload_n zm_161 (Or.inl (by decide)) D161_174 rfl).trans ?_
    refine (Q_getR (q := 129) zm_161 (Or.inl (by decide)) D161_175 zf_10_13 zs_10_3 zk_127.1 rfl).trans ?_
    exact Q_calls (as := [.ref 129]) (rest := []) zm_161 (Or.inl (by decide)) D161_178 zc_10_303 rfl (by decide) (by simp [zcat, Value.category]) zm_160 rfl
  · refine (Q_iconst (v := -1) zm_161 (Or.inl (by decide)) D161_172 (by decide)).trans ?_
    exact Q_ireturn zm_161 (Or.inl (by decide)) D161_173 rfl

theorem b161_146 {d : Nat} {i1 : Int32} {i2 : Int32} {ia : Nat → Nat → Int32} {la : Nat → Nat → Int64} {pl dr : Nat} {cp : Option Nat} {cw : Option Nat} {rp : Option Nat} {K : Option Value → zHP → Prop}  : zWP d 161 146 [some (.ref 127), some (.int i1), some (.int i2)] [] (ia, la, zRA pl dr cp cw rp) K = zWP d 161 127 [some (.ref 127), some (.int i1), some (.int i2)] [] (ia, la, zRA pl dr cp cw rp) K := by
  refine (Q_goto (tgt := 127) zm_161 (Or.inl (by decide)) D161_146 (by decide)).trans ?_
  rfl

theorem b161_181 {d : Nat} {i1 : Int32} {i2 : Int32} {ia : Nat → Nat → Int32} {la : Nat → Nat → Int64} {pl dr : Nat} {cp : Option Nat} {cw : Option Nat} {rp : Option Nat} {K : Option Value → zHP → Prop}  : zWP (d + 1) 161 181 [some (.ref 127), some (.int i1), some (.int i2)] [] (ia, la, zRA pl dr cp cw rp) K = zWM d 160 [.ref 130] (ia, la, zRA pl dr cp cw rp) (zK (d + 1) 161 188 [some (.ref 127), some (.int i1), some (.int i2)] [] K) := by
  refine (Q_aload_n zm_161 (Or.inl (by decide)) D161_181 rfl).trans ?_
  refine (Q_getR (q := 130) zm_161 (Or.inl (by decide)) D161_182 zf_10_16 zs_10_4 zk_127.1 rfl).trans ?_
  exact Q_calls (as := [.ref 130]) (rest := []) zm_161 (Or.inl (by decide)) D161_185 zc_10_303 rfl (by decide) (by simp [zcat, Value.category]) zm_160 rfl

theorem b161_188 {d : Nat} {i1 : Int32} {i2 : Int32} {ia : Nat → Nat → Int32} {la : Nat → Nat → Int64} {pl dr : Nat} {cp : Option Nat} {cw : Option Nat} {rp : Option Nat} {K : Option Value → zHP → Prop}  : zWP (d + 1) 161 188 [some (.ref 127), some (.int i1), some (.int i2)] [] (ia, la, zRA pl dr cp cw rp) K = zWM d 160 [.ref 131] (ia, la, zRA pl dr cp cw rp) (zK (d + 1) 161 195 [some (.ref 127), some (.int i1), some (.int i2)] [] K) := by
  refine (Q_aload_n zm_161 (Or.inl (by decide)) D161_188 rfl).trans ?_
  refine (Q_getR (q := 131) zm_161 (Or.inl (by decide)) D161_189 zf_10_19 zs_10_5 zk_127.1 rfl).trans ?_
  exact Q_calls (as := [.ref 131]) (rest := []) zm_161 (Or.inl (by decide)) D161_192 zc_10_303 rfl (by decide) (by simp [zcat, Value.category]) zm_160 rfl

theorem b161_195 {d : Nat} {i1 : Int32} {i2 : Int32} {ia : Nat → Nat → Int32} {la : Nat → Nat → Int64} {pl dr : Nat} {cp : Option Nat} {cw : Option Nat} {rp : Option Nat} {K : Option Value → zHP → Prop}  : zWP (d + 1) 161 195 [some (.ref 127), some (.int i1), some (.int i2)] [] (ia, la, zRA pl dr cp cw rp) K = zWM d 160 [.ref 132] (ia, la, zRA pl dr cp cw rp) (zK (d + 1) 161 202 [some (.ref 127), some (.int i1), some (.int i2)] [] K) := by
  refine (Q_aload_n zm_161 (Or.inl (by decide)) D161_195 rfl).trans ?_
  refine (Q_getR (q := 132) zm_161 (Or.inl (by decide)) D161_196 zf_10_22 zs_10_6 zk_127.1 rfl).trans ?_
  exact Q_calls (as := [.ref 132]) (rest := []) zm_161 (Or.inl (by decide)) D161_199 zc_10_303 rfl (by decide) (by simp [zcat, Value.category]) zm_160 rfl

theorem b161_202 {d : Nat} {i1 : Int32} {i2 : Int32} {ia : Nat → Nat → Int32} {la : Nat → Nat → Int64} {pl dr : Nat} {cp : Option Nat} {cw : Option Nat} {rp : Option Nat} {K : Option Value → zHP → Prop}  : zWP (d + 1) 161 202 [some (.ref 127), some (.int i1), some (.int i2)] [] (ia, la, zRA pl dr cp cw rp) K = zWM d 160 [.ref 133] (ia, la, zRA pl dr cp cw rp) (zK (d + 1) 161 209 [some (.ref 127), some (.int i1), some (.int i2)] [] K) := by
  refine (Q_aload_n zm_161 (Or.inl (by decide)) D161_202 rfl).trans ?_
  refine (Q_getR (q := 133) zm_161 (Or.inl (by decide)) D161_203 zf_10_25 zs_10_7 zk_127.1 rfl).trans ?_
  exact Q_calls (as := [.ref 133]) (rest := []) zm_161 (Or.inl (by decide)) D161_206 zc_10_303 rfl (by decide) (by simp [zcat, Value.category]) zm_160 rfl

theorem b161_209 {d : Nat} {i1 : Int32} {i2 : Int32} {ia : Nat → Nat → Int32} {la : Nat → Nat → Int64} {pl dr : Nat} {cp : Option Nat} {cw : Option Nat} {rp : Option Nat} {K : Option Value → zHP → Prop}  : zWP (d + 1) 161 209 [some (.ref 127), some (.int i1), some (.int i2)] [] (ia, la, zRA pl dr cp cw rp) K = zWM d 160 [.ref 134] (ia, la, zRA pl dr cp cw rp) (zK (d + 1) 161 216 [some (.ref 127), some (.int i1), some (.int i2)] [] K) := by
  refine (Q_aload_n zm_161 (Or.inl (by decide)) D161_209 rfl).trans ?_
  refine (Q_getR (q := 134) zm_161 (Or.inl (by decide)) D161_210 zf_10_28 zs_10_8 zk_127.1 rfl).trans ?_
  exact Q_calls (as := [.ref 134]) (rest := []) zm_161 (Or.inl (by decide)) D161_213 zc_10_303 rfl (by decide) (by simp [zcat, Value.category]) zm_160 rfl

theorem b161_216 {d : Nat} {i1 : Int32} {i2 : Int32} {ia : Nat → Nat → Int32} {la : Nat → Nat → Int64} {pl dr : Nat} {cp : Option Nat} {cw : Option Nat} {rp : Option Nat} {K : Option Value → zHP → Prop}  : zWP (d + 1) 161 216 [some (.ref 127), some (.int i1), some (.int i2)] [] (ia, la, zRA pl dr cp cw rp) K = zWM d 160 [.ref 135] (ia, la, zRA pl dr cp cw rp) (zK (d + 1) 161 223 [some (.ref 127), some (.int i1), some (.int i2)] [] K) := by
  refine (Q_aload_n zm_161 (Or.inl (by decide)) D161_216 rfl).trans ?_
  refine (Q_getR (q := 135) zm_161 (Or.inl (by decide)) D161_217 zf_10_31 zs_10_9 zk_127.1 rfl).trans ?_
  exact Q_calls (as := [.ref 135]) (rest := []) zm_161 (Or.inl (by decide)) D161_220 zc_10_303 rfl (by decide) (by simp [zcat, Value.category]) zm_160 rfl

theorem b161_223 {d : Nat} {i1 : Int32} {i2 : Int32} {ia : Nat → Nat → Int32} {la : Nat → Nat → Int64} {pl dr : Nat} {cp : Option Nat} {cw : Option Nat} {rp : Option Nat} {K : Option Value → zHP → Prop}  : zWP (d + 1) 161 223 [some (.ref 127), some (.int i1), some (.int i2)] [] (ia, la, zRA pl dr cp cw rp) K = zWM d 160 [.ref 136] (ia, la, zRA pl dr cp cw rp) (zK (d + 1) 161 230 [some (.ref 127), some (.int i1), some (.int i2)] [] K) := by
  refine (Q_aload_n zm_161 (Or.inl (by decide)) D161_223 rfl).trans ?_
  refine (Q_getR (q := 136) zm_161 (Or.inl (by decide)) D161_224 zf_10_34 zs_10_10 zk_127.1 rfl).trans ?_
  exact Q_calls (as := [.ref 136]) (rest := []) zm_161 (Or.inl (by decide)) D161_227 zc_10_303 rfl (by decide) (by simp [zcat, Value.category]) zm_160 rfl

theorem b161_230 {d : Nat} {i1 : Int32} {i2 : Int32} {ia : Nat → Nat → Int32} {la : Nat → Nat → Int64} {pl dr : Nat} {cp : Option Nat} {cw : Option Nat} {rp : Option Nat} {K : Option Value → zHP → Prop}  : zWP (d + 1) 161 230 [some (.ref 127), some (.int i1), some (.int i2)] [] (ia, la, zRA pl dr cp cw rp) K = zWM d 160 [.ref 137] (ia, la, zRA pl dr cp cw rp) (zK (d + 1) 161 237 [some (.ref 127), some (.int i1), some (.int i2)] [] K) := by
  refine (Q_aload_n zm_161 (Or.inl (by decide)) D161_230 rfl).trans ?_
  refine (Q_getR (q := 137) zm_161 (Or.inl (by decide)) D161_231 zf_10_37 zs_10_11 zk_127.1 rfl).trans ?_
  exact Q_calls (as := [.ref 137]) (rest := []) zm_161 (Or.inl (by decide)) D161_234 zc_10_303 rfl (by decide) (by simp [zcat, Value.category]) zm_160 rfl

theorem b161_237 {d : Nat} {i1 : Int32} {i2 : Int32} {ia : Nat → Nat → Int32} {la : Nat → Nat → Int64} {pl dr : Nat} {cp : Option Nat} {cw : Option Nat} {rp : Option Nat} {K : Option Value → zHP → Prop}  : zWP (d + 1) 161 237 [some (.ref 127), some (.int i1), some (.int i2)] [] (ia, la, zRA pl dr cp cw rp) K = zWM d 160 [.ref 138] (ia, la, zRA pl dr cp cw rp) (zK (d + 1) 161 244 [some (.ref 127), some (.int i1), some (.int i2)] [] K) := by
  refine (Q_aload_n zm_161 (Or.inl (by decide)) D161_237 rfl).trans ?_
  refine (Q_getR (q := 138) zm_161 (Or.inl (by decide)) D161_238 zf_10_40 zs_10_12 zk_127.1 rfl).trans ?_
  exact Q_calls (as := [.ref 138]) (rest := []) zm_161 (Or.inl (by decide)) D161_241 zc_10_303 rfl (by decide) (by simp [zcat, Value.category]) zm_160 rfl

theorem b161_244 {d : Nat} {i1 : Int32} {i2 : Int32} {ia : Nat → Nat → Int32} {la : Nat → Nat → Int64} {pl dr : Nat} {cp : Option Nat} {cw : Option Nat} {rp : Option Nat} {K : Option Value → zHP → Prop}  : zWP (d + 1) 161 244 [some (.ref 127), some (.int i1), some (.int i2)] [] (ia, la, zRA pl dr cp cw rp) K = zWM d 160 [.ref 139] (ia, la, zRA pl dr cp cw rp) (zK (d + 1) 161 251 [some (.ref 127), some (.int i1), some (.int i2)] [] K) := by
  refine (Q_aload_n zm_161 (Or.inl (by decide)) D161_244 rfl).trans ?_
  refine (Q_getR (q := 139) zm_161 (Or.inl (by decide)) D161_245 zf_10_43 zs_10_13 zk_127.1 rfl).trans ?_
  exact Q_calls (as := [.ref 139]) (rest := []) zm_161 (Or.inl (by decide)) D161_248 zc_10_303 rfl (by decide) (by simp [zcat, Value.category]) zm_160 rfl

theorem b161_251 {d : Nat} {i1 : Int32} {i2 : Int32} {ia : Nat → Nat → Int32} {la : Nat → Nat → Int64} {pl dr : Nat} {cp : Option Nat} {cw : Option Nat} {rp : Option Nat} {K : Option Value → zHP → Prop}  : zWP (d + 1) 161 251 [some (.ref 127), some (.int i1), some (.int i2)] [] (ia, la, zRA pl dr cp cw rp) K = zWM d 160 [.ref 140] (ia, la, zRA pl dr cp cw rp) (zK (d + 1) 161 258 [some (.ref 127), some (.int i1), some (.int i2)] [] K) := by
  refine (Q_aload_n zm_161 (Or.inl (by decide)) D161_251 rfl).trans ?_
  refine (Q_getR (q := 140) zm_161 (Or.inl (by decide)) D161_252 zf_10_46 zs_10_14 zk_127.1 rfl).trans ?_
  exact Q_calls (as := [.ref 140]) (rest := []) zm_161 (Or.inl (by decide)) D161_255 zc_10_303 rfl (by decide) (by simp [zcat, Value.category]) zm_160 rfl

theorem b161_258 {d : Nat} {i1 : Int32} {i2 : Int32} {ia : Nat → Nat → Int32} {la : Nat → Nat → Int64} {pl dr : Nat} {cp : Option Nat} {cw : Option Nat} {rp : Option Nat} {K : Option Value → zHP → Prop}  : zWP (d + 1) 161 258 [some (.ref 127), some (.int i1), some (.int i2)] [] (ia, la, zRA pl dr cp cw rp) K = zWM d 160 [.ref 141] (ia, la, zRA pl dr cp cw rp) (zK (d + 1) 161 265 [some (.ref 127), some (.int i1), some (.int i2)] [] K) := by
  refine (Q_aload_n zm_161 (Or.inl (by decide)) D161_258 rfl).trans ?_
  refine (Q_getR (q := 141) zm_161 (Or.inl (by decide)) D161_259 zf_10_49 zs_10_15 zk_127.1 rfl).trans ?_
  exact Q_calls (as := [.ref 141]) (rest := []) zm_161 (Or.inl (by decide)) D161_262 zc_10_303 rfl (by decide) (by simp [zcat, Value.category]) zm_160 rfl

theorem b161_265 {d : Nat} {i1 : Int32} {i2 : Int32} {ia : Nat → Nat → Int32} {la : Nat → Nat → Int64} {pl dr : Nat} {cp : Option Nat} {cw : Option Nat} {rp : Option Nat} {K : Option Value → zHP → Prop}  : zWP (d + 1) 161 265 [some (.ref 127), some (.int i1), some (.int i2)] [] (ia, la, zRA pl dr cp cw rp) K = zWM d 160 [.ref 142] (ia, la, zRA pl dr cp cw rp) (zK (d + 1) 161 272 [some (.ref 127), some (.int i1), some (.int i2)] [] K) := by
  refine (Q_aload_n zm_161 (Or.inl (by decide)) D161_265 rfl).trans ?_
  refine (Q_getR (q := 142) zm_161 (Or.inl (by decide)) D161_266 zf_10_52 zs_10_16 zk_127.1 rfl).trans ?_
  exact Q_calls (as := [.ref 142]) (rest := []) zm_161 (Or.inl (by decide)) D161_269 zc_10_303 rfl (by decide) (by simp [zcat, Value.category]) zm_160 rfl

theorem b161_272 {d : Nat} {i1 : Int32} {i2 : Int32} {ia : Nat → Nat → Int32} {la : Nat → Nat → Int64} {pl dr : Nat} {cp : Option Nat} {cw : Option Nat} {rp : Option Nat} {K : Option Value → zHP → Prop}  : zWP (d + 1) 161 272 [some (.ref 127), some (.int i1), some (.int i2)] [] (ia, la, zRA pl dr cp cw rp) K = zWM d 160 [.ref 143] (ia, la, zRA pl dr cp cw rp) (zK (d + 1) 161 279 [some (.ref 127), some (.int i1), some (.int i2)] [] K) := by
  refine (Q_aload_n zm_161 (Or.inl (by decide)) D161_272 rfl).trans ?_
  refine (Q_getR (q := 143) zm_161 (Or.inl (by decide)) D161_273 zf_10_55 zs_10_17 zk_127.1 rfl).trans ?_
  exact Q_calls (as := [.ref 143]) (rest := []) zm_161 (Or.inl (by decide)) D161_276 zc_10_303 rfl (by decide) (by simp [zcat, Value.category]) zm_160 rfl

theorem b161_279 {d : Nat} {i1 : Int32} {i2 : Int32} {ia : Nat → Nat → Int32} {la : Nat → Nat → Int64} {pl dr : Nat} {cp : Option Nat} {cw : Option Nat} {rp : Option Nat} {K : Option Value → zHP → Prop}  : zWP (d + 1) 161 279 [some (.ref 127), some (.int i1), some (.int i2)] [] (ia, la, zRA pl dr cp cw rp) K = zWM d 160 [.ref 144] (ia, la, zRA pl dr cp cw rp) (zK (d + 1) 161 286 [some (.ref 127), some (.int i1), some (.int i2)] [] K) := by
  refine (Q_aload_n zm_161 (Or.inl (by decide)) D161_279 rfl).trans ?_
  refine (Q_getR (q := 144) zm_161 (Or.inl (by decide)) D161_280 zf_10_58 zs_10_18 zk_127.1 rfl).trans ?_
  exact Q_calls (as := [.ref 144]) (rest := []) zm_161 (Or.inl (by decide)) D161_283 zc_10_303 rfl (by decide) (by simp [zcat, Value.category]) zm_160 rfl

theorem b161_286 {d : Nat} {i1 : Int32} {i2 : Int32} {ia : Nat → Nat → Int32} {la : Nat → Nat → Int64} {pl dr : Nat} {cp : Option Nat} {cw : Option Nat} {rp : Option Nat} {K : Option Value → zHP → Prop}  : zWP (d + 1) 161 286 [some (.ref 127), some (.int i1), some (.int i2)] [] (ia, la, zRA pl dr cp cw rp) K = zWM d 169 [.ref 127] ((zu (zu (zu (zu ia 127 57 (0 : Int32)) 127 58 (-1 : Int32)) 127 47 (0 : Int32)) 127 48 (0 : Int32)), la, zRA pl dr cp cw rp) (zK (d + 1) 161 310 [some (.ref 127), some (.int i1), some (.int i2)] [] K) := by
  refine (Q_aload_n zm_161 (Or.inl (by decide)) D161_286 rfl).trans ?_
  refine (Q_iconst (v := 0) zm_161 (Or.inl (by decide)) D161_287 (by decide)).trans ?_
  refine (Q_putI zm_161 (Or.inl (by decide)) D161_288 zf_10_307 zs_10_57 rfl zk_127.1).trans ?_
  refine (Q_aload_n zm_161 (Or.inl (by decide)) D161_291 rfl).trans ?_
  refine (Q_iconst (v := -1) zm_161 (Or.inl (by decide)) D161_292 (by decide)).trans ?_
  refine (Q_putI zm_161 (Or.inl (by decide)) D161_293 zf_10_123 zs_10_58 rfl zk_127.1).trans ?_
  refine (Q_aload_n zm_161 (Or.inl (by decide)) D161_296 rfl).trans ?_
  refine (Q_iconst (v := 0) zm_161 (Or.inl (by decide)) D161_297 (by decide)).trans ?_
  refine (Q_putZ zm_161 (Or.inl (by decide)) D161_298 zf_10_310 zs_10_47 rfl zk_127.1 (by decide)).trans ?_
  refine (Q_aload_n zm_161 (Or.inl (by decide)) D161_301 rfl).trans ?_
  refine (Q_iconst (v := 0) zm_161 (Or.inl (by decide)) D161_302 (by decide)).trans ?_
  refine (Q_putI zm_161 (Or.inl (by decide)) D161_303 zf_10_314 zs_10_48 rfl zk_127.1).trans ?_
  refine (Q_aload_n zm_161 (Or.inl (by decide)) D161_306 rfl).trans ?_
  exact Q_callv (as := []) (b := 127) (rest := []) zm_161 (Or.inl (by decide)) D161_307 zc_10_148 rfl zk_127.1 (by decide) (by decide +kernel) (by decide) (by simp [zcat, Value.category]) zm_169 rfl

theorem b161_310 {d : Nat} {i1 : Int32} {i2 : Int32} {ia : Nat → Nat → Int32} {la : Nat → Nat → Int64} {pl dr : Nat} {cp : Option Nat} {cw : Option Nat} {rp : Option Nat} {K : Option Value → zHP → Prop}  : zWP d 161 310 [some (.ref 127), some (.int i1), some (.int i2)] [] (ia, la, zRA pl dr cp cw rp) K = K (some (.int (ia 127 20))) (ia, la, zRA pl dr cp cw rp) := by
  refine (Q_aload_n zm_161 (Or.inl (by decide)) D161_310 rfl).trans ?_
  refine (Q_getI zm_161 (Or.inl (by decide)) D161_311 zf_10_261 (Or.inl zs_10_20) zk_127.1).trans ?_
  exact Q_ireturn zm_161 (Or.inl (by decide)) D161_314 rfl

/-! HandsLetModel.fault(I)I -/
theorem D162_0 : decode prog_12_method_36_code 0 = .ok (.aload_n 0, 1) := by decide +kernel
theorem D162_1 : decode prog_12_method_36_code 1 = .ok (.iconst 0, 1) := by decide +kernel
theorem D162_2 : decode prog_12_method_36_code 2 = .ok (.putfield 151, 3) := by decide +kernel
theorem D162_5 : decode prog_12_method_36_code 5 = .ok (.iload_n 1, 1) := by decide +kernel
theorem D162_6 : decode prog_12_method_36_code 6 = .ok (.ifCond .ne 10, 3) := by decide +kernel
theorem D162_9 : decode prog_12_method_36_code 9 = .ok (.aload_n 0, 1) := by decide +kernel
theorem D162_10 : decode prog_12_method_36_code 10 = .ok (.getfield 300, 3) := by decide +kernel
theorem D162_13 : decode prog_12_method_36_code 13 = .ok (.goto 16, 3) := by decide +kernel
theorem D162_16 : decode prog_12_method_36_code 16 = .ok (.iload_n 1, 1) := by decide +kernel
theorem D162_17 : decode prog_12_method_36_code 17 = .ok (.iconst 1, 1) := by decide +kernel
theorem D162_18 : decode prog_12_method_36_code 18 = .ok (.if_icmp .ne 10, 3) := by decide +kernel
theorem D162_21 : decode prog_12_method_36_code 21 = .ok (.aload_n 0, 1) := by decide +kernel
theorem D162_22 : decode prog_12_method_36_code 22 = .ok (.getfield 61, 3) := by decide +kernel
theorem D162_25 : decode prog_12_method_36_code 25 = .ok (.goto 4, 3) := by decide +kernel
theorem D162_28 : decode prog_12_method_36_code 28 = .ok (.iconst (-1), 1) := by decide +kernel
theorem D162_29 : decode prog_12_method_36_code 29 = .ok (.ireturn, 1) := by decide +kernel

theorem b162_0 {d : Nat} {i1 : Int32} {ia : Nat → Nat → Int32} {la : Nat → Nat → Int64} {pl dr : Nat} {cp : Option Nat} {cw : Option Nat} {rp : Option Nat} {K : Option Value → zHP → Prop}  : zWP d 162 0 [some (.ref 127), some (.int i1)] [] (ia, la, zRA pl dr cp cw rp) K = (if ¬ i1 = 0 then (if ¬ i1 = (1 : Int32) then K (some (.int (-1 : Int32))) ((zu ia 127 0 (0 : Int32)), la, zRA pl dr cp cw rp) else K (some (.int ((zu ia 127 0 (0 : Int32)) 127 29))) ((zu ia 127 0 (0 : Int32)), la, zRA pl dr cp cw rp)) else K (some (.int ((zu ia 127 0 (0 : Int32)) 127 28))) ((zu ia 127 0 (0 : Int32)), la, zRA pl dr cp cw rp)) := by
  refine (Q_aload_n zm_162 (Or.inl (by decide)) D162_0 rfl).trans ?_
  refine (Q_iconst (v := 0) zm_162 (Or.inl (by decide)) D162_1 (by decide)).trans ?_
  refine (Q_putI zm_162 (Or.inl (by decide)) D162_2 zf_10_151 zs_10_0 rfl zk_127.1).trans ?_
  refine (Q_iload_n zm_162 (Or.inl (by decide)) D162_5 rfl).trans ?_
  refine (Q_if_ne (tgt := 16) zm_162 (Or.inl (by decide)) D162_6 (by decide)).trans ?_
  refine zif_c (fun h0_ => ?_) (fun h0_ => ?_)
  · refine (Q_iload_n zm_162 (Or.inl (by decide)) D162_16 rfl).trans ?_
    refine (Q_iconst (v := 1) zm_162 (Or.inl (by decide)) D162_17 (by decide)).trans ?_
    refine (Q_ic_ne (tgt := 28) zm_162 (Or.inl (by decide)) D162_18 (by decide)).trans ?_
    refine zif_c (fun h1_ => ?_) (fun h1_ => ?_)
    · refine (Q_iconst (v := -1) zm_162 (Or.inl (by decide)) D162_28 (by decide)).trans ?_
      exact Q_ireturn zm_162 (Or.inl (by decide)) D162_29 rfl
    · refine (Q_aload_n zm_162 (Or.inl (by decide)) D162_21 rfl).trans ?_
      refine (Q_getI zm_162 (Or.inl (by decide)) D162_22 zf_10_61 (Or.inl zs_10_29) zk_127.1).trans ?_
      refine (Q_goto (tgt := 29) zm_162 (Or.inl (by decide)) D162_25 (by decide)).trans ?_
      exact Q_ireturn zm_162 (Or.inl (by decide)) D162_29 rfl
  · refine (Q_aload_n zm_162 (Or.inl (by decide)) D162_9 rfl).trans ?_
    refine (Q_getI zm_162 (Or.inl (by decide)) D162_10 zf_10_300 (Or.inl zs_10_28) zk_127.1).trans ?_
    refine (Q_goto (tgt := 29) zm_162 (Or.inl (by decide)) D162_13 (by decide)).trans ?_
    exact Q_ireturn zm_162 (Or.inl (by decide)) D162_29 rfl

/-! HandsLetModel.named(I)I -/
theorem D163_0 : decode prog_12_method_37_code 0 = .ok (.aload_n 0, 1) := by decide +kernel
theorem D163_1 : decode prog_12_method_37_code 1 = .ok (.iconst 0, 1) := by decide +kernel
theorem D163_2 : decode prog_12_method_37_code 2 = .ok (.putfield 151, 3) := by decide +kernel
theorem D163_5 : decode prog_12_method_37_code 5 = .ok (.aload_n 0, 1) := by decide +kernel
theorem D163_6 : decode prog_12_method_37_code 6 = .ok (.getfield 16, 3) := by decide +kernel
theorem D163_9 : decode prog_12_method_37_code 9 = .ok (.iconst 0, 1) := by decide +kernel
theorem D163_10 : decode prog_12_method_37_code 10 = .ok (.aload_n 0, 1) := by decide +kernel
theorem D163_11 : decode prog_12_method_37_code 11 = .ok (.getfield 13, 3) := by decide +kernel
theorem D163_14 : decode prog_12_method_37_code 14 = .ok (.iconst 0, 1) := by decide +kernel
theorem D163_15 : decode prog_12_method_37_code 15 = .ok (.iaload, 1) := by decide +kernel
theorem D163_16 : decode prog_12_method_37_code 16 = .ok (.iload_n 1, 1) := by decide +kernel
theorem D163_17 : decode prog_12_method_37_code 17 = .ok (.invokestatic 217, 3) := by decide +kernel
theorem D163_20 : decode prog_12_method_37_code 20 = .ok (.ireturn, 1) := by decide +kernel

theorem b163_0 {d : Nat} {i1 : Int32} {ia : Nat → Nat → Int32} {la : Nat → Nat → Int64} {pl dr : Nat} {cp : Option Nat} {cw : Option Nat} {rp : Option Nat} {K : Option Value → zHP → Prop}  : zWP (d + 1) 163 0 [some (.ref 127), some (.int i1)] [] (ia, la, zRA pl dr cp cw rp) K = zWM d 142 [.ref 130, .int (0 : Int32), .int ((zu ia 127 0 (0 : Int32)) 129 0), .int i1] ((zu ia 127 0 (0 : Int32)), la, zRA pl dr cp cw rp) (zK (d + 1) 163 20 [some (.ref 127), some (.int i1)] [] K) := by
  refine (Q_aload_n zm_163 (Or.inl (by decide)) D163_0 rfl).trans ?_
  refine (Q_iconst (v := 0) zm_163 (Or.inl (by decide)) D163_1 (by decide)).trans ?_
  refine (Q_putI zm_163 (Or.inl (by decide)) D163_2 zf_10_151 zs_10_0 rfl zk_127.1).trans ?_
  refine (Q_aload_n zm_163 (Or.inl (by decide)) D163_5 rfl).trans ?_
  refine (Q_getR (q := 130) zm_163 (Or.inl (by decide)) D163_6 zf_10_16 zs_10_4 zk_127.1 rfl).trans ?_
  refine (Q_iconst (v := 0) zm_163 (Or.inl (by decide)) D163_9 (by decide)).trans ?_
  refine (Q_aload_n zm_163 (Or.inl (by decide)) D163_10 rfl).trans ?_
  refine (Q_getR (q := 129) zm_163 (Or.inl (by decide)) D163_11 zf_10_13 zs_10_3 zk_127.1 rfl).trans ?_
  refine (Q_iconst (v := 0) zm_163 (Or.inl (by decide)) D163_14 (by decide)).trans ?_
  refine ((Q_iaload zm_163 (Or.inl (by decide)) D163_15 zk_129.1 zk_129.2).trans (zdrop (zin_spec (by decide)))).trans ?_
  refine (Q_iload_n zm_163 (Or.inl (by decide)) D163_16 rfl).trans ?_
  exact Q_calls (as := [.ref 130, .int (0 : Int32), .int ((zu ia 127 0 (0 : Int32)) 129 0), .int i1]) (rest := []) zm_163 (Or.inl (by decide)) D163_17 zc_10_217 rfl (by decide) (by simp [zcat, Value.category]) zm_142 rfl

theorem b163_20 {d : Nat} {i1 : Int32} {s0 : Int32} {ia : Nat → Nat → Int32} {la : Nat → Nat → Int64} {pl dr : Nat} {cp : Option Nat} {cw : Option Nat} {rp : Option Nat} {K : Option Value → zHP → Prop}  : zWP d 163 20 [some (.ref 127), some (.int i1)] [.int s0] (ia, la, zRA pl dr cp cw rp) K = K (some (.int s0)) (ia, la, zRA pl dr cp cw rp) := by
  exact Q_ireturn zm_163 (Or.inl (by decide)) D163_20 rfl

/-! HandsLetModel.is(Z)J -/
theorem D164_0 : decode prog_12_method_38_code 0 = .ok (.iload_n 0, 1) := by decide +kernel
theorem D164_1 : decode prog_12_method_38_code 1 = .ok (.ifCond .eq 7, 3) := by decide +kernel
theorem D164_4 : decode prog_12_method_38_code 4 = .ok (.lconst 1, 1) := by decide +kernel
theorem D164_5 : decode prog_12_method_38_code 5 = .ok (.goto 4, 3) := by decide +kernel
theorem D164_8 : decode prog_12_method_38_code 8 = .ok (.lconst 0, 1) := by decide +kernel
theorem D164_9 : decode prog_12_method_38_code 9 = .ok (.lreturn, 1) := by decide +kernel

theorem b164_0 {d : Nat} {i0 : Int32} {ia : Nat → Nat → Int32} {la : Nat → Nat → Int64} {pl dr : Nat} {cp : Option Nat} {cw : Option Nat} {rp : Option Nat} {K : Option Value → zHP → Prop}  : zWP d 164 0 [some (.int i0)] [] (ia, la, zRA pl dr cp cw rp) K = (if i0 = 0 then K (some (.long (0 : Int64))) (ia, la, zRA pl dr cp cw rp) else K (some (.long (1 : Int64))) (ia, la, zRA pl dr cp cw rp)) := by
  refine (Q_iload_n zm_164 (Or.inl (by decide)) D164_0 rfl).trans ?_
  refine (Q_if_eq (tgt := 8) zm_164 (Or.inl (by decide)) D164_1 (by decide)).trans ?_
  refine zif_c (fun h0_ => ?_) (fun h0_ => ?_)
  · refine (Q_lconst (v := 0) zm_164 (Or.inl (by decide)) D164_8 (by decide)).trans ?_
    exact Q_lreturn zm_164 (Or.inl (by decide)) D164_9 rfl
  · refine (Q_lconst (v := 1) zm_164 (Or.inl (by decide)) D164_4 (by decide)).trans ?_
    refine (Q_goto (tgt := 9) zm_164 (Or.inl (by decide)) D164_5 (by decide)).trans ?_
    exact Q_lreturn zm_164 (Or.inl (by decide)) D164_9 rfl
