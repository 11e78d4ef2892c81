/-! HandsLet.isLetter(I)Z -/
theorem D81_0 : decode prog_1_method_7_code 0 = .ok (.iload_n 1, 1) := by decide +kernel
theorem D81_1 : decode prog_1_method_7_code 1 = .ok (.ifCond .lt 18, 3) := by decide +kernel
theorem D81_4 : decode prog_1_method_7_code 4 = .ok (.iload_n 1, 1) := by decide +kernel
theorem D81_5 : decode prog_1_method_7_code 5 = .ok (.aload_n 0, 1) := by decide +kernel
theorem D81_6 : decode prog_1_method_7_code 6 = .ok (.getfield 21, 3) := by decide +kernel
theorem D81_9 : decode prog_1_method_7_code 9 = .ok (.getfield 119, 3) := by decide +kernel
theorem D81_12 : decode prog_1_method_7_code 12 = .ok (.if_icmp .ge 7, 3) := by decide +kernel
theorem D81_15 : decode prog_1_method_7_code 15 = .ok (.iconst 1, 1) := by decide +kernel
theorem D81_16 : decode prog_1_method_7_code 16 = .ok (.goto 4, 3) := by decide +kernel
theorem D81_19 : decode prog_1_method_7_code 19 = .ok (.iconst 0, 1) := by decide +kernel
theorem D81_20 : decode prog_1_method_7_code 20 = .ok (.ireturn, 1) := by decide +kernel

theorem b81_0 {d : Nat} {i1 : Int32} {ia : Nat → Nat → Int32} {la : Nat → Nat → Int64} {pl dr : Nat} {cp : Option Nat} {cw : Option Nat} {rp : Option Nat} {K : Option Value → zHP → Prop} (hpl : zIsP pl) : zWP d 81 0 [some (.ref 0), some (.int i1)] [] (ia, la, zRA pl dr cp cw rp) K = (if i1 < 0 then K (some (.int (0 : Int32))) (ia, la, zRA pl dr cp cw rp) else (if (ia pl 3) ≤ i1 then K (some (.int (0 : Int32))) (ia, la, zRA pl dr cp cw rp) else K (some (.int (1 : Int32))) (ia, la, zRA pl dr cp cw rp))) := by
  refine (Q_iload_n zm_81 (Or.inl (by decide)) D81_0 rfl).trans ?_
  refine (Q_if_lt (tgt := 19) zm_81 (Or.inl (by decide)) D81_1 (by decide)).trans ?_
  refine zif_c (fun h0_ => ?_) (fun h0_ => ?_)
  · refine (Q_iconst (v := 0) zm_81 (Or.inl (by decide)) D81_19 (by decide)).trans ?_
    exact Q_zreturn zm_81 (Or.inl (by decide)) D81_20 rfl (by decide)
  · refine (Q_iload_n zm_81 (Or.inl (by decide)) D81_4 rfl).trans ?_
    refine (Q_aload_n zm_81 (Or.inl (by decide)) D81_5 rfl).trans ?_
    refine (Q_getR (q := pl) zm_81 (Or.inl (by decide)) D81_6 zf_9_21 zs_9_1 zk_0.1 rfl).trans ?_
    refine (Q_getI zm_81 (Or.inl (by decide)) D81_9 zf_9_119 (Or.inl zs_3_3) (zkp_0 hpl).1).trans ?_
    refine (Q_ic_ge (tgt := 19) zm_81 (Or.inl (by decide)) D81_12 (by decide)).trans ?_
    refine zif_c (fun h1_ => ?_) (fun h1_ => ?_)
    · refine (Q_iconst (v := 0) zm_81 (Or.inl (by decide)) D81_19 (by decide)).trans ?_
      exact Q_zreturn zm_81 (Or.inl (by decide)) D81_20 rfl (by decide)
    · refine (Q_iconst (v := 1) zm_81 (Or.inl (by decide)) D81_15 (by decide)).trans ?_
      refine (Q_goto (tgt := 20) zm_81 (Or.inl (by decide)) D81_16 (by decide)).trans ?_
      exact Q_zreturn zm_81 (Or.inl (by decide)) D81_20 rfl (by decide)

/-! HandsLet$World.handsLet()I -/
theorem D75_0 : decode prog_10_method_10_code 0 = .ok (.iconst 0, 1) := by decide +kernel
theorem D75_1 : decode prog_10_method_10_code 1 = .ok (.istore_n 1, 1) := by decide +kernel
theorem D75_2 : decode prog_10_method_10_code 2 = .ok (.iconst 0, 1) := by decide +kernel
theorem D75_3 : decode prog_10_method_10_code 3 = .ok (.istore_n 2, 1) := by decide +kernel
theorem D75_4 : decode prog_10_method_10_code 4 = .ok (.iload_n 2, 1) := by decide +kernel
theorem D75_5 : decode prog_10_method_10_code 5 = .ok (.bipush 6, 2) := by decide +kernel
theorem D75_7 : decode prog_10_method_10_code 7 = .ok (.if_icmp .ge 20, 3) := by decide +kernel
theorem D75_10 : decode prog_10_method_10_code 10 = .ok (.aload_n 0, 1) := by decide +kernel
theorem D75_11 : decode prog_10_method_10_code 11 = .ok (.iload_n 2, 1) := by decide +kernel
theorem D75_12 : decode prog_10_method_10_code 12 = .ok (.invokevirtual 75, 3) := by decide +kernel
theorem D75_15 : decode prog_10_method_10_code 15 = .ok (.ifCond .eq 6, 3) := by decide +kernel
theorem D75_18 : decode prog_10_method_10_code 18 = .ok (.iinc 1 1, 3) := by decide +kernel
theorem D75_21 : decode prog_10_method_10_code 21 = .ok (.iinc 2 1, 3) := by decide +kernel
theorem D75_24 : decode prog_10_method_10_code 24 = .ok (.goto (-20), 3) := by decide +kernel
theorem D75_27 : decode prog_10_method_10_code 27 = .ok (.iload_n 1, 1) := by decide +kernel
theorem D75_28 : decode prog_10_method_10_code 28 = .ok (.ireturn, 1) := by decide +kernel

theorem b75_0 {d : Nat} {w0 : Nat} {ia : Nat → Nat → Int32} {la : Nat → Nat → Int64} {pl dr : Nat} {cp : Option Nat} {cw : Option Nat} {rp : Option Nat} {K : Option Value → zHP → Prop} (hw0 : zIsW w0) : zWP d 75 0 [some (.ref w0), none, none] [] (ia, la, zRA pl dr cp cw rp) K = zWP d 75 4 [some (.ref w0), some (.int (0 : Int32)), some (.int (0 : Int32))] [] (ia, la, zRA pl dr cp cw rp) K := by
  refine (Q_iconst (v := 0) zm_75 (Or.inl (by decide)) D75_0 (by decide)).trans ?_
  refine (Q_istore_n (ls' := [some (.ref w0), some (.int (0 : Int32)), none]) zm_75 (Or.inl (by decide)) D75_1 rfl (by simp) rfl).trans ?_
  refine (Q_iconst (v := 0) zm_75 (Or.inl (by decide)) D75_2 (by decide)).trans ?_
  refine (Q_istore_n (ls' := [some (.ref w0), some (.int (0 : Int32)), some (.int (0 : Int32))]) zm_75 (Or.inl (by decide)) D75_3 rfl (by simp) rfl).trans ?_
  rfl

theorem b75_4 {d : Nat} {w0 : Nat} {i1 : Int32} {i2 : Int32} {ia : Nat → Nat → Int32} {la : Nat → Nat → Int64} {pl dr : Nat} {cp : Option Nat} {cw : Option Nat} {rp : Option Nat} {K : Option Value → zHP → Prop} (hw0 : zIsW w0) : zWP (d + 1) 75 4 [some (.ref w0), some (.int i1), some (.int i2)] [] (ia, la, zRA pl dr cp cw rp) K = (if (6 : Int32) ≤ i2 then K (some (.int i1)) (ia, la, zRA pl dr cp cw rp) else zWM d 69 [.ref w0, .int i2] (ia, la, zRA pl dr cp cw rp) (zK (d + 1) 75 15 [some (.ref w0), some (.int i1), some (.int i2)] [] K)) := by
  refine (Q_iload_n zm_75 (Or.inl (by decide)) D75_4 rfl).trans ?_
  refine (Q_bipush (v := 6) zm_75 (Or.inl (by decide)) D75_5 (by decide)).trans ?_
  refine (Q_ic_ge (tgt := 27) zm_75 (Or.inl (by decide)) D75_7 (by decide)).trans ?_
  refine zif_c (fun h0_ => ?_) (fun h0_ => ?_)
  · refine (Q_iload_n zm_75 (Or.inl (by decide)) D75_27 rfl).trans ?_
    exact Q_ireturn zm_75 (Or.inl (by decide)) D75_28 rfl
  · refine (Q_aload_n zm_75 (Or.inl (by decide)) D75_10 rfl).trans ?_
    refine (Q_iload_n zm_75 (Or.inl (by decide)) D75_11 rfl).trans ?_
    exact Q_callv (as := [.int i2]) (b := w0) (rest := []) zm_75 (Or.inl (by decide)) D75_12 zc_8_75 rfl (zkw_0 hw0).1 (by decide) (by decide +kernel) (by decide) (by simp [zcat, Value.category]) zm_69 rfl

theorem b75_15 {d : Nat} {w0 : Nat} {i1 : Int32} {i2 : Int32} {s0 : Int32} {ia : Nat → Nat → Int32} {la : Nat → Nat → Int64} {pl dr : Nat} {cp : Option Nat} {cw : Option Nat} {rp : Option Nat} {K : Option Value → zHP → Prop} (hw0 : zIsW w0) : zWP d 75 15 [some (.ref w0), some (.int i1), some (.int i2)] [.int s0] (ia, la, zRA pl dr cp cw rp) K = (if s0 = 0 then zWP d 75 4 [some (.ref w0), some (.int i1), some (.int (i2 + (1 : Int32)))] [] (ia, la, zRA pl dr cp cw rp) K else zWP d 75 4 [some (.ref w0), some (.int (i1 + (1 : Int32))), some (.int (i2 + (1 : Int32)))] [] (ia, la, zRA pl dr cp cw rp) K) := by
  refine (Q_if_eq (tgt := 21) zm_75 (Or.inl (by decide)) D75_15 (by decide)).trans ?_
  refine zif_c (fun h0_ => ?_) (fun h0_ => ?_)
  · refine (Q_iinc (v := 1) (ls' := [some (.ref w0), some (.int i1), some (.int (i2 + (1 : Int32)))]) zm_75 (Or.inl (by decide)) D75_21 rfl rfl (by decide) rfl).trans ?_
    refine (Q_goto (tgt := 4) zm_75 (Or.inl (by decide)) D75_24 (by decide)).trans ?_
    rfl
  · refine (Q_iinc (v := 1) (ls' := [some (.ref w0), some (.int (i1 + (1 : Int32))), some (.int i2)]) zm_75 (Or.inl (by decide)) D75_18 rfl rfl (by decide) rfl).trans ?_
    refine (Q_iinc (v := 1) (ls' := [some (.ref w0), some (.int (i1 + (1 : Int32))), some (.int (i2 + (1 : Int32)))]) zm_75 (Or.inl (by decide)) D75_21 rfl rfl (by decide) rfl).trans ?_
    refine (Q_goto (tgt := 4) zm_75 (Or.inl (by decide)) D75_24 (by decide)).trans ?_
    rfl

/-! HandsLet.distance([III)I -/
theorem D95_0 : decode prog_1_method_22_code 0 = .ok (.iconst 0, 1) := by decide +kernel
theorem D95_1 : decode prog_1_method_22_code 1 = .ok (.istore 4, 2) := by decide +kernel
theorem D95_3 : decode prog_1_method_22_code 3 = .ok (.iconst 0, 1) := by decide +kernel
theorem D95_4 : decode prog_1_method_22_code 4 = .ok (.istore 5, 2) := by decide +kernel
theorem D95_6 : decode prog_1_method_22_code 6 = .ok (.iload 5, 2) := by decide +kernel
theorem D95_8 : decode prog_1_method_22_code 8 = .ok (.iconst 3, 1) := by decide +kernel
theorem D95_9 : decode prog_1_method_22_code 9 = .ok (.if_icmp .ge 44, 3) := by decide +kernel
theorem D95_12 : decode prog_1_method_22_code 12 = .ok (.iload 4, 2) := by decide +kernel
theorem D95_14 : decode prog_1_method_22_code 14 = .ok (.aload_n 1, 1) := by decide +kernel
theorem D95_15 : decode prog_1_method_22_code 15 = .ok (.iload_n 2, 1) := by decide +kernel
theorem D95_16 : decode prog_1_method_22_code 16 = .ok (.iconst 3, 1) := by decide +kernel
theorem D95_17 : decode prog_1_method_22_code 17 = .ok (.imul, 1) := by decide +kernel
theorem D95_18 : decode prog_1_method_22_code 18 = .ok (.iload 5, 2) := by decide +kernel
theorem D95_20 : decode prog_1_method_22_code 20 = .ok (.iadd, 1) := by decide +kernel
theorem D95_21 : decode prog_1_method_22_code 21 = .ok (.iaload, 1) := by decide +kernel
theorem D95_22 : decode prog_1_method_22_code 22 = .ok (.sipush 1000, 3) := by decide +kernel
theorem D95_25 : decode prog_1_method_22_code 25 = .ok (.aload_n 0, 1) := by decide +kernel
theorem D95_26 : decode prog_1_method_22_code 26 = .ok (.getfield 21, 3) := by decide +kernel
theorem D95_29 : decode prog_1_method_22_code 29 = .ok (.getfield 147, 3) := by decide +kernel
theorem D95_32 : decode prog_1_method_22_code 32 = .ok (.iload_n 3, 1) := by decide +kernel
theorem D95_33 : decode prog_1_method_22_code 33 = .ok (.iconst 3, 1) := by decide +kernel
theorem D95_34 : decode prog_1_method_22_code 34 = .ok (.imul, 1) := by decide +kernel
theorem D95_35 : decode prog_1_method_22_code 35 = .ok (.iload 5, 2) := by decide +kernel
theorem D95_37 : decode prog_1_method_22_code 37 = .ok (.iadd, 1) := by decide +kernel
theorem D95_38 : decode prog_1_method_22_code 38 = .ok (.iaload, 1) := by decide +kernel
theorem D95_39 : decode prog_1_method_22_code 39 = .ok (.imul, 1) := by decide +kernel
theorem D95_40 : decode prog_1_method_22_code 40 = .ok (.isub, 1) := by decide +kernel
theorem D95_41 : decode prog_1_method_22_code 41 = .ok (.invokestatic 246, 3) := by decide +kernel
theorem D95_44 : decode prog_1_method_22_code 44 = .ok (.iadd, 1) := by decide +kernel
theorem D95_45 : decode prog_1_method_22_code 45 = .ok (.istore 4, 2) := by decide +kernel
theorem D95_47 : decode prog_1_method_22_code 47 = .ok (.iinc 5 1, 3) := by decide +kernel
theorem D95_50 : decode prog_1_method_22_code 50 = .ok (.goto (-44), 3) := by decide +kernel
theorem D95_53 : decode prog_1_method_22_code 53 = .ok (.iload 4, 2) := by decide +kernel
theorem D95_55 : decode prog_1_method_22_code 55 = .ok (.ireturn, 1) := by decide +kernel

theorem b95_0 {d : Nat} {r1 : Nat} {i2 : Int32} {i3 : Int32} {ia : Nat → Nat → Int32} {la : Nat → Nat → Int64} {pl dr : Nat} {cp : Option Nat} {cw : Option Nat} {rp : Option Nat} {K : Option Value → zHP → Prop}  : zWP d 95 0 [some (.ref 0), some (.ref r1), some (.int i2), some (.int i3), none, none] [] (ia, la, zRA pl dr cp cw rp) K = zWP d 95 6 [some (.ref 0), some (.ref r1), some (.int i2), some (.int i3), some (.int (0 : Int32)), some (.int (0 : Int32))] [] (ia, la, zRA pl dr cp cw rp) K := by
  refine (Q_iconst (v := 0) zm_95 (Or.inl (by decide)) D95_0 (by decide)).trans ?_
  refine (Q_istore (ls' := [some (.ref 0), some (.ref r1), some (.int i2), some (.int i3), some (.int (0 : Int32)), none]) zm_95 (Or.inl (by decide)) D95_1 rfl (by simp) rfl).trans ?_
  refine (Q_iconst (v := 0) zm_95 (Or.inl (by decide)) D95_3 (by decide)).trans ?_
  refine (Q_istore (ls' := [some (.ref 0), some (.ref r1), some (.int i2), some (.int i3), some (.int (0 : Int32)), some (.int (0 : Int32))]) zm_95 (Or.inl (by decide)) D95_4 rfl (by simp) rfl).trans ?_
  rfl

theorem b95_6 {d : Nat} {r1 : Nat} {i2 : Int32} {i3 : Int32} {i4 : Int32} {i5 : Int32} {ia : Nat → Nat → Int32} {la : Nat → Nat → Int64} {pl dr : Nat} {cp : Option Nat} {cw : Option Nat} {rp : Option Nat} {K : Option Value → zHP → Prop} (hpl : zIsP pl) : zWP (d + 5) 95 6 [some (.ref 0), some (.ref r1), some (.int i2), some (.int i3), some (.int i4), some (.int i5)] [] (ia, la, zRA pl dr cp cw rp) K = (if (3 : Int32) ≤ i5 then K (some (.int i4)) (ia, la, zRA pl dr cp cw rp) else ((zkd r1 = 100 ∧ vp_in ((i2 * (3 : Int32)) + i5) (zln r1)) ∧ (vp_in ((i3 * (3 : Int32)) + i5) 18 ∧ zWP (d + 5) 95 6 [some (.ref 0), some (.ref r1), some (.int i2), some (.int i3), some (.int (i4 + (if 0 ≤ ((ia r1 (((i2 * (3 : Int32)) + i5)).toNatClampNeg) - ((1000 : Int32) * (ia (pl + 2) (((i3 * (3 : Int32)) + i5)).toNatClampNeg))) then ((ia r1 (((i2 * (3 : Int32)) + i5)).toNatClampNeg) - ((1000 : Int32) * (ia (pl + 2) (((i3 * (3 : Int32)) + i5)).toNatClampNeg))) else 0 - ((ia r1 (((i2 * (3 : Int32)) + i5)).toNatClampNeg) - ((1000 : Int32) * (ia (pl + 2) (((i3 * (3 : Int32)) + i5)).toNatClampNeg)))))), some (.int (i5 + (1 : Int32)))] [] (ia, la, zRA pl dr cp cw rp) K))) := by
  refine (Q_iload zm_95 (Or.inl (by decide)) D95_6 rfl).trans ?_
  refine (Q_iconst (v := 3) zm_95 (Or.inl (by decide)) D95_8 (by decide)).trans ?_
  refine (Q_ic_ge (tgt := 53) zm_95 (Or.inl (by decide)) D95_9 (by decide)).trans ?_
  refine zif_c (fun h0_ => ?_) (fun h0_ => ?_)
  · refine (Q_iload zm_95 (Or.inl (by decide)) D95_53 rfl).trans ?_
    exact Q_ireturn zm_95 (Or.inl (by decide)) D95_55 rfl
  · refine (Q_iload zm_95 (Or.inl (by decide)) D95_12 rfl).trans ?_
    refine (Q_aload_n zm_95 (Or.inl (by decide)) D95_14 rfl).trans ?_
    refine (Q_iload_n zm_95 (Or.inl (by decide)) D95_15 rfl).trans ?_
    refine (Q_iconst (v := 3) zm_95 (Or.inl (by decide)) D95_16 (by decide)).trans ?_
    refine (Q_imul zm_95 (Or.inl (by decide)) D95_17).trans ?_
    refine (Q_iload zm_95 (Or.inl (by decide)) D95_18 rfl).trans ?_
    refine (Q_iadd zm_95 (Or.inl (by decide)) D95_20).trans ?_
    refine (Q_ialoadV zm_95 (Or.inl (by decide)) D95_21 (by decide)).trans ?_
    refine zand_c (fun h1_ => ?_)
    refine (Q_sipush (v := 1000) zm_95 (Or.inl (by decide)) D95_22 (by decide)).trans ?_
    refine (Q_aload_n zm_95 (Or.inl (by decide)) D95_25 rfl).trans ?_
    refine (Q_getR (q := pl) zm_95 (Or.inl (by decide)) D95_26 zf_9_21 zs_9_1 zk_0.1 rfl).trans ?_
    refine (Q_getR (q := (pl + 2)) zm_95 (Or.inl (by decide)) D95_29 zf_9_147 zs_3_6 (zkp_0 hpl).1 (zrp_6 hpl)).trans ?_
    refine (Q_iload_n zm_95 (Or.inl (by decide)) D95_32 rfl).trans ?_
    refine (Q_iconst (v := 3) zm_95 (Or.inl (by decide)) D95_33 (by decide)).trans ?_
    refine (Q_imul zm_95 (Or.inl (by decide)) D95_34).trans ?_
    refine (Q_iload zm_95 (Or.inl (by decide)) D95_35 rfl).trans ?_
    refine (Q_iadd zm_95 (Or.inl (by decide)) D95_37).trans ?_
    refine (Q_iaload zm_95 (Or.inl (by decide)) D95_38 (zkp_2 hpl).1 (zkp_2 hpl).2).trans ?_
    refine zand_c (fun h2_ => ?_)
    refine (Q_imul zm_95 (Or.inl (by decide)) D95_39).trans ?_
    refine (Q_isub zm_95 (Or.inl (by decide)) D95_40).trans ?_
    refine (Q_bis (as := [.int ((ia r1 (((i2 * (3 : Int32)) + i5)).toNatClampNeg) - ((1000 : Int32) * (ia (pl + 2) (((i3 * (3 : Int32)) + i5)).toNatClampNeg)))]) (rest := [.int i4]) zm_95 (Or.inl (by decide)) D95_41 zc_9_246 rfl (by decide) (by simp [zcat, Value.category]) rfl).trans ?_
    refine (Q_iadd zm_95 (Or.inl (by decide)) D95_44).trans ?_
    refine (Q_istore (ls' := [some (.ref 0), some (.ref r1), some (.int i2), some (.int i3), some (.int (i4 + (if 0 ≤ ((ia r1 (((i2 * (3 : Int32)) + i5)).toNatClampNeg) - ((1000 : Int32) * (ia (pl + 2) (((i3 * (3 : Int32)) + i5)).toNatClampNeg))) then ((ia r1 (((i2 * (3 : Int32)) + i5)).toNatClampNeg) - ((1000 : Int32) * (ia (pl + 2) (((i3 * (3 : Int32)) + i5)).toNatClampNeg))) else 0 - ((ia r1 (((i2 * (3 : Int32)) + i5)).toNatClampNeg) - ((1000 : Int32) * (ia (pl + 2) (((i3 * (3 : Int32)) + i5)).toNatClampNeg)))))), some (.int i5)]) zm_95 (Or.inl (by decide)) D95_45 rfl (by simp) rfl).trans ?_
    refine (Q_iinc (v := 1) (ls' := [some (.ref 0), some (.ref r1), some (.int i2), some (.int i3), some (.int (i4 + (if 0 ≤ ((ia r1 (((i2 * (3 : Int32)) + i5)).toNatClampNeg) - ((1000 : Int32) * (ia (pl + 2) (((i3 * (3 : Int32)) + i5)).toNatClampNeg))) then ((ia r1 (((i2 * (3 : Int32)) + i5)).toNatClampNeg) - ((1000 : Int32) * (ia (pl + 2) (((i3 * (3 : Int32)) + i5)).toNatClampNeg))) else 0 - ((ia r1 (((i2 * (3 : Int32)) + i5)).toNatClampNeg) - ((1000 : Int32) * (ia (pl + 2) (((i3 * (3 : Int32)) + i5)).toNatClampNeg)))))), some (.int (i5 + (1 : Int32)))]) zm_95 (Or.inl (by decide)) D95_47 rfl rfl (by decide) rfl).trans ?_
    refine (Q_goto (tgt := 6) zm_95 (Or.inl (by decide)) D95_50 (by decide)).trans ?_
    rfl

/-! HandsLet.handsHeldBy(I)I -/
theorem D83_0 : decode prog_1_method_10_code 0 = .ok (.iconst 0, 1) := by decide +kernel
theorem D83_1 : decode prog_1_method_10_code 1 = .ok (.istore_n 2, 1) := by decide +kernel
theorem D83_2 : decode prog_1_method_10_code 2 = .ok (.iconst 0, 1) := by decide +kernel
theorem D83_3 : decode prog_1_method_10_code 3 = .ok (.istore_n 3, 1) := by decide +kernel
theorem D83_4 : decode prog_1_method_10_code 4 = .ok (.iload_n 3, 1) := by decide +kernel
theorem D83_5 : decode prog_1_method_10_code 5 = .ok (.aload_n 0, 1) := by decide +kernel
theorem D83_6 : decode prog_1_method_10_code 6 = .ok (.getfield 21, 3) := by decide +kernel
theorem D83_9 : decode prog_1_method_10_code 9 = .ok (.getfield 116, 3) := by decide +kernel
theorem D83_12 : decode prog_1_method_10_code 12 = .ok (.if_icmp .ge 27, 3) := by decide +kernel
theorem D83_15 : decode prog_1_method_10_code 15 = .ok (.aload_n 0, 1) := by decide +kernel
theorem D83_16 : decode prog_1_method_10_code 16 = .ok (.getfield 31, 3) := by decide +kernel
theorem D83_19 : decode prog_1_method_10_code 19 = .ok (.iload_n 3, 1) := by decide +kernel
theorem D83_20 : decode prog_1_method_10_code 20 = .ok (.invokevirtual 141, 3) := by decide +kernel
theorem D83_23 : decode prog_1_method_10_code 23 = .ok (.iload_n 1, 1) := by decide +kernel
theorem D83_24 : decode prog_1_method_10_code 24 = .ok (.if_icmp .ne 9, 3) := by decide +kernel
theorem D83_27 : decode prog_1_method_10_code 27 = .ok (.iload_n 2, 1) := by decide +kernel
theorem D83_28 : decode prog_1_method_10_code 28 = .ok (.iconst 1, 1) := by decide +kernel
theorem D83_29 : decode prog_1_method_10_code 29 = .ok (.iload_n 3, 1) := by decide +kernel
theorem D83_30 : decode prog_1_method_10_code 30 = .ok (.ishl, 1) := by decide +kernel
theorem D83_31 : decode prog_1_method_10_code 31 = .ok (.ior, 1) := by decide +kernel
theorem D83_32 : decode prog_1_method_10_code 32 = .ok (.istore_n 2, 1) := by decide +kernel
theorem D83_33 : decode prog_1_method_10_code 33 = .ok (.iinc 3 1, 3) := by decide +kernel
theorem D83_36 : decode prog_1_method_10_code 36 = .ok (.goto (-32), 3) := by decide +kernel
theorem D83_39 : decode prog_1_method_10_code 39 = .ok (.iload_n 2, 1) := by decide +kernel
theorem D83_40 : decode prog_1_method_10_code 40 = .ok (.ireturn, 1) := by decide +kernel

theorem b83_0 {d : Nat} {i1 : Int32} {ia : Nat → Nat → Int32} {la : Nat → Nat → Int64} {pl dr : Nat} {cp : Option Nat} {cw : Option Nat} {rp : Option Nat} {K : Option Value → zHP → Prop}  : zWP d 83 0 [some (.ref 0), some (.int i1), none, none] [] (ia, la, zRA pl dr cp cw rp) K = zWP d 83 4 [some (.ref 0), some (.int i1), some (.int (0 : Int32)), some (.int (0 : Int32))] [] (ia, la, zRA pl dr cp cw rp) K := by
  refine (Q_iconst (v := 0) zm_83 (Or.inl (by decide)) D83_0 (by decide)).trans ?_
  refine (Q_istore_n (ls' := [some (.ref 0), some (.int i1), some (.int (0 : Int32)), none]) zm_83 (Or.inl (by decide)) D83_1 rfl (by simp) rfl).trans ?_
  refine (Q_iconst (v := 0) zm_83 (Or.inl (by decide)) D83_2 (by decide)).trans ?_
  refine (Q_istore_n (ls' := [some (.ref 0), some (.int i1), some (.int (0 : Int32)), some (.int (0 : Int32))]) zm_83 (Or.inl (by decide)) D83_3 rfl (by simp) rfl).trans ?_
  rfl

theorem b83_4 {d : Nat} {i1 : Int32} {i2 : Int32} {i3 : Int32} {ia : Nat → Nat → Int32} {la : Nat → Nat → Int64} {pl dr : Nat} {cp : Option Nat} {cw : Option Nat} {rp : Option Nat} {K : Option Value → zHP → Prop} (hpl : zIsP pl) : zWP (d + 1) 83 4 [some (.ref 0), some (.int i1), some (.int i2), some (.int i3)] [] (ia, la, zRA pl dr cp cw rp) K = (if (ia pl 1) ≤ i3 then K (some (.int i2)) (ia, la, zRA pl dr cp cw rp) else zWM d 70 [.ref 72, .int i3] (ia, la, zRA pl dr cp cw rp) (zK (d + 1) 83 23 [some (.ref 0), some (.int i1), some (.int i2), some (.int i3)] [] K)) := by
  refine (Q_iload_n zm_83 (Or.inl (by decide)) D83_4 rfl).trans ?_
  refine (Q_aload_n zm_83 (Or.inl (by decide)) D83_5 rfl).trans ?_
  refine (Q_getR (q := pl) zm_83 (Or.inl (by decide)) D83_6 zf_9_21 zs_9_1 zk_0.1 rfl).trans ?_
  refine (Q_getI zm_83 (Or.inl (by decide)) D83_9 zf_9_116 (Or.inl zs_3_1) (zkp_0 hpl).1).trans ?_
  refine (Q_ic_ge (tgt := 39) zm_83 (Or.inl (by decide)) D83_12 (by decide)).trans ?_
  refine zif_c (fun h0_ => ?_) (fun h0_ => ?_)
  · refine (Q_iload_n zm_83 (Or.inl (by decide)) D83_39 rfl).trans ?_
    exact Q_ireturn zm_83 (Or.inl (by decide)) D83_40 rfl
  · refine (Q_aload_n zm_83 (Or.inl (by decide)) D83_15 rfl).trans ?_
    refine (Q_getR (q := 72) zm_83 (Or.inl (by decide)) D83_16 zf_9_31 zs_9_3 zk_0.1 rfl).trans ?_
    refine (Q_iload_n zm_83 (Or.inl (by decide)) D83_19 rfl).trans ?_
    exact Q_callv (as := [.int i3]) (b := 72) (rest := []) zm_83 (Or.inl (by decide)) D83_20 zc_9_141 rfl zk_72.1 (by decide) (by decide +kernel) (by decide) (by simp [zcat, Value.category]) zm_70 rfl

theorem b83_23 {d : Nat} {i1 : Int32} {i2 : Int32} {i3 : Int32} {s0 : Int32} {ia : Nat → Nat → Int32} {la : Nat → Nat → Int64} {pl dr : Nat} {cp : Option Nat} {cw : Option Nat} {rp : Option Nat} {K : Option Value → zHP → Prop}  : zWP d 83 23 [some (.ref 0), some (.int i1), some (.int i2), some (.int i3)] [.int s0] (ia, la, zRA pl dr cp cw rp) K = (if ¬ s0 = i1 then zWP d 83 4 [some (.ref 0), some (.int i1), some (.int i2), some (.int (i3 + (1 : Int32)))] [] (ia, la, zRA pl dr cp cw rp) K else zWP d 83 4 [some (.ref 0), some (.int i1), some (.int (i2 ||| ((1 : Int32) <<< (i3 &&& 31)))), some (.int (i3 + (1 : Int32)))] [] (ia, la, zRA pl dr cp cw rp) K) := by
  refine (Q_iload_n zm_83 (Or.inl (by decide)) D83_23 rfl).trans ?_
  refine (Q_ic_ne (tgt := 33) zm_83 (Or.inl (by decide)) D83_24 (by decide)).trans ?_
  refine zif_c (fun h0_ => ?_) (fun h0_ => ?_)
  · refine (Q_iinc (v := 1) (ls' := [some (.ref 0), some (.int i1), some (.int i2), some (.int (i3 + (1 : Int32)))]) zm_83 (Or.inl (by decide)) D83_33 rfl rfl (by decide) rfl).trans ?_
    refine (Q_goto (tgt := 4) zm_83 (Or.inl (by decide)) D83_36 (by decide)).trans ?_
    rfl
  · refine (Q_iload_n zm_83 (Or.inl (by decide)) D83_27 rfl).trans ?_
    refine (Q_iconst (v := 1) zm_83 (Or.inl (by decide)) D83_28 (by decide)).trans ?_
    refine (Q_iload_n zm_83 (Or.inl (by decide)) D83_29 rfl).trans ?_
    refine (Q_ishl zm_83 (Or.inl (by decide)) D83_30).trans ?_
    refine (Q_ior zm_83 (Or.inl (by decide)) D83_31).trans ?_
    refine (Q_istore_n (ls' := [some (.ref 0), some (.int i1), some (.int (i2 ||| ((1 : Int32) <<< (i3 &&& 31)))), some (.int i3)]) zm_83 (Or.inl (by decide)) D83_32 rfl (by simp) rfl).trans ?_
    refine (Q_iinc (v := 1) (ls' := [some (.ref 0), some (.int i1), some (.int (i2 ||| ((1 : Int32) <<< (i3 &&& 31)))), some (.int (i3 + (1 : Int32)))]) zm_83 (Or.inl (by decide)) D83_33 rfl rfl (by decide) rfl).trans ?_
    refine (Q_goto (tgt := 4) zm_83 (Or.inl (by decide)) D83_36 (by decide)).trans ?_
    rfl

/-! HandsLet$Course.playDay()V -/
theorem D2_0 : decode prog_2_method_4_code 0 = .ok (.aload_n 0, 1) := by decide +kernel
theorem D2_1 : decode prog_2_method_4_code 1 = .ok (.getfield 22, 3) := by decide +kernel
theorem D2_4 : decode prog_2_method_4_code 4 = .ok (.getfield 52, 3) := by decide +kernel
theorem D2_7 : decode prog_2_method_4_code 7 = .ok (.bipush 99, 2) := by decide +kernel
theorem D2_9 : decode prog_2_method_4_code 9 = .ok (.if_icmp .gt 41, 3) := by decide +kernel
theorem D2_12 : decode prog_2_method_4_code 12 = .ok (.aload_n 0, 1) := by decide +kernel
theorem D2_13 : decode prog_2_method_4_code 13 = .ok (.invokevirtual 57, 3) := by decide +kernel
theorem D2_16 : decode prog_2_method_4_code 16 = .ok (.aload_n 0, 1) := by decide +kernel
theorem D2_17 : decode prog_2_method_4_code 17 = .ok (.getfield 22, 3) := by decide +kernel
theorem D2_20 : decode prog_2_method_4_code 20 = .ok (.getfield 60, 3) := by decide +kernel
theorem D2_23 : decode prog_2_method_4_code 23 = .ok (.istore_n 1, 1) := by decide +kernel
theorem D2_24 : decode prog_2_method_4_code 24 = .ok (.aload_n 0, 1) := by decide +kernel
theorem D2_25 : decode prog_2_method_4_code 25 = .ok (.invokevirtual 63, 3) := by decide +kernel
theorem D2_28 : decode prog_2_method_4_code 28 = .ok (.aload_n 0, 1) := by decide +kernel
theorem D2_29 : decode prog_2_method_4_code 29 = .ok (.getfield 22, 3) := by decide +kernel
theorem D2_32 : decode prog_2_method_4_code 32 = .ok (.getfield 60, 3) := by decide +kernel
theorem D2_35 : decode prog_2_method_4_code 35 = .ok (.iload_n 1, 1) := by decide +kernel
theorem D2_36 : decode prog_2_method_4_code 36 = .ok (.if_icmp .le 14, 3) := by decide +kernel
theorem D2_39 : decode prog_2_method_4_code 39 = .ok (.aload_n 0, 1) := by decide +kernel
theorem D2_40 : decode prog_2_method_4_code 40 = .ok (.invokevirtual 66, 3) := by decide +kernel
theorem D2_43 : decode prog_2_method_4_code 43 = .ok (.ifCond .eq 7, 3) := by decide +kernel
theorem D2_46 : decode prog_2_method_4_code 46 = .ok (.aload_n 0, 1) := by decide +kernel
theorem D2_47 : decode prog_2_method_4_code 47 = .ok (.invokevirtual 70, 3) := by decide +kernel
theorem D2_50 : decode prog_2_method_4_code 50 = .ok (.iconst 0, 1) := by decide +kernel
theorem D2_51 : decode prog_2_method_4_code 51 = .ok (.istore_n 1, 1) := by decide +kernel
theorem D2_52 : decode prog_2_method_4_code 52 = .ok (.iload_n 1, 1) := by decide +kernel
theorem D2_53 : decode prog_2_method_4_code 53 = .ok (.aload_n 0, 1) := by decide +kernel
theorem D2_54 : decode prog_2_method_4_code 54 = .ok (.getfield 18, 3) := by decide +kernel
theorem D2_57 : decode prog_2_method_4_code 57 = .ok (.getfield 73, 3) := by decide +kernel
theorem D2_60 : decode prog_2_method_4_code 60 = .ok (.if_icmp .ge 50, 3) := by decide +kernel
theorem D2_63 : decode prog_2_method_4_code 63 = .ok (.aload_n 0, 1) := by decide +kernel
theorem D2_64 : decode prog_2_method_4_code 64 = .ok (.getfield 22, 3) := by decide +kernel
theorem D2_67 : decode prog_2_method_4_code 67 = .ok (.iload_n 1, 1) := by decide +kernel
theorem D2_68 : decode prog_2_method_4_code 68 = .ok (.invokevirtual 76, 3) := by decide +kernel
theorem D2_71 : decode prog_2_method_4_code 71 = .ok (.ifCond .eq 33, 3) := by decide +kernel
theorem D2_74 : decode prog_2_method_4_code 74 = .ok (.aload_n 0, 1) := by decide +kernel
theorem D2_75 : decode prog_2_method_4_code 75 = .ok (.getfield 22, 3) := by decide +kernel
theorem D2_78 : decode prog_2_method_4_code 78 = .ok (.getfield 80, 3) := by decide +kernel
theorem D2_81 : decode prog_2_method_4_code 81 = .ok (.iload_n 1, 1) := by decide +kernel
theorem D2_82 : decode prog_2_method_4_code 82 = .ok (.dup2, 1) := by decide +kernel
theorem D2_83 : decode prog_2_method_4_code 83 = .ok (.iaload, 1) := by decide +kernel
theorem D2_84 : decode prog_2_method_4_code 84 = .ok (.iconst 1, 1) := by decide +kernel
theorem D2_85 : decode prog_2_method_4_code 85 = .ok (.isub, 1) := by decide +kernel
theorem D2_86 : decode prog_2_method_4_code 86 = .ok (.iastore, 1) := by decide +kernel
theorem D2_87 : decode prog_2_method_4_code 87 = .ok (.aload_n 0, 1) := by decide +kernel
theorem D2_88 : decode prog_2_method_4_code 88 = .ok (.getfield 22, 3) := by decide +kernel
theorem D2_91 : decode prog_2_method_4_code 91 = .ok (.getfield 80, 3) := by decide +kernel
theorem D2_94 : decode prog_2_method_4_code 94 = .ok (.iload_n 1, 1) := by decide +kernel
theorem D2_95 : decode prog_2_method_4_code 95 = .ok (.iaload, 1) := by decide +kernel
theorem D2_96 : decode prog_2_method_4_code 96 = .ok (.ifCond .gt 8, 3) := by decide +kernel
theorem D2_99 : decode prog_2_method_4_code 99 = .ok (.aload_n 0, 1) := by decide +kernel
theorem D2_100 : decode prog_2_method_4_code 100 = .ok (.iload_n 1, 1) := by decide +kernel
theorem D2_101 : decode prog_2_method_4_code 101 = .ok (.invokevirtual 83, 3) := by decide +kernel
theorem D2_104 : decode prog_2_method_4_code 104 = .ok (.iinc 1 1, 3) := by decide +kernel
theorem D2_107 : decode prog_2_method_4_code 107 = .ok (.goto (-55), 3) := by decide +kernel
theorem D2_110 : decode prog_2_method_4_code 110 = .ok (.aload_n 0, 1) := by decide +kernel
theorem D2_111 : decode prog_2_method_4_code 111 = .ok (.getfield 22, 3) := by decide +kernel
theorem D2_114 : decode prog_2_method_4_code 114 = .ok (.dup, 1) := by decide +kernel
theorem D2_115 : decode prog_2_method_4_code 115 = .ok (.getfield 52, 3) := by decide +kernel
theorem D2_118 : decode prog_2_method_4_code 118 = .ok (.iconst 1, 1) := by decide +kernel
theorem D2_119 : decode prog_2_method_4_code 119 = .ok (.iadd, 1) := by decide +kernel
theorem D2_120 : decode prog_2_method_4_code 120 = .ok (.putfield 52, 3) := by decide +kernel
theorem D2_123 : decode prog_2_method_4_code 123 = .ok (.return_, 1) := by decide +kernel

theorem b2_0 {d : Nat}  {ia : Nat → Nat → Int32} {la : Nat → Nat → Int64} {pl dr : Nat} {cp : Nat} {cw : Nat} {rp : Option Nat} {K : Option Value → zHP → Prop} (hcw : zIsW cw) : zWP (d + 1) 2 0 [some (.ref 102), none] [] (ia, la, zRA pl dr (some cp) (some cw) rp) K = (if (99 : Int32) < (ia cw 0) then zWP (d + 1) 2 52 [some (.ref 102), some (.int (0 : Int32))] [] (ia, la, zRA pl dr (some cp) (some cw) rp) K else zWM d 3 [.ref 102] (ia, la, zRA pl dr (some cp) (some cw) rp) (zK (d + 1) 2 16 [some (.ref 102), none] [] K)) := by
  refine (Q_aload_n zm_2 (Or.inl (by decide)) D2_0 rfl).trans ?_
  refine (Q_getR (q := cw) zm_2 (Or.inl (by decide)) D2_1 zf_0_22 zs_0_2 zk_102.1 rfl).trans ?_
  refine (Q_getI zm_2 (Or.inl (by decide)) D2_4 zf_0_52 (Or.inl zs_8_0) (zkw_0 hcw).1).trans ?_
  refine (Q_bipush (v := 99) zm_2 (Or.inl (by decide)) D2_7 (by decide)).trans ?_
  refine (Q_ic_gt (tgt := 50) zm_2 (Or.inl (by decide)) D2_9 (by decide)).trans ?_
  refine zif_c (fun h0_ => ?_) (fun h0_ => ?_)
  · refine (Q_iconst (v := 0) zm_2 (Or.inl (by decide)) D2_50 (by decide)).trans ?_
    refine (Q_istore_n (ls' := [some (.ref 102), some (.int (0 : Int32))]) zm_2 (Or.inl (by decide)) D2_51 rfl (by simp) rfl).trans ?_
    rfl
  · refine (Q_aload_n zm_2 (Or.inl (by decide)) D2_12 rfl).trans ?_
    exact Q_callv (as := []) (b := 102) (rest := []) zm_2 (Or.inl (by decide)) D2_13 zc_0_57 rfl zk_102.1 (by decide) (by decide +kernel) (by decide) (by simp [zcat, Value.category]) zm_3 rfl

theorem b2_52 {d : Nat} {i1 : Int32} {ia : Nat → Nat → Int32} {la : Nat → Nat → Int64} {pl dr : Nat} {cp : Nat} {cw : Nat} {rp : Option Nat} {K : Option Value → zHP → Prop} (hcp : zIsP cp) (hcw : zIsW cw) : zWP (d + 1) 2 52 [some (.ref 102), some (.int i1)] [] (ia, la, zRA pl dr (some cp) (some cw) rp) K = (if (ia cp 1) ≤ i1 then K none ((zu ia cw 0 ((ia cw 0) + (1 : Int32))), la, zRA pl dr (some cp) (some cw) rp) else zWM d 69 [.ref cw, .int i1] (ia, la, zRA pl dr (some cp) (some cw) rp) (zK (d + 1) 2 71 [some (.ref 102), some (.int i1)] [] K)) := by
  refine (Q_iload_n zm_2 (Or.inl (by decide)) D2_52 rfl).trans ?_
  refine (Q_aload_n zm_2 (Or.inl (by decide)) D2_53 rfl).trans ?_
  refine (Q_getR (q := cp) zm_2 (Or.inl (by decide)) D2_54 zf_0_18 zs_0_1 zk_102.1 rfl).trans ?_
  refine (Q_getI zm_2 (Or.inl (by decide)) D2_57 zf_0_73 (Or.inl zs_3_1) (zkp_0 hcp).1).trans ?_
  refine (Q_ic_ge (tgt := 110) zm_2 (Or.inl (by decide)) D2_60 (by decide)).trans ?_
  refine zif_c (fun h0_ => ?_) (fun h0_ => ?_)
  · refine (Q_aload_n zm_2 (Or.inl (by decide)) D2_110 rfl).trans ?_
    refine (Q_getR (q := cw) zm_2 (Or.inl (by decide)) D2_111 zf_0_22 zs_0_2 zk_102.1 rfl).trans ?_
    refine (Q_dup zm_2 (Or.inl (by decide)) D2_114 rfl).trans ?_
    refine (Q_getI zm_2 (Or.inl (by decide)) D2_115 zf_0_52 (Or.inl zs_8_0) (zkw_0 hcw).1).trans ?_
    refine (Q_iconst (v := 1) zm_2 (Or.inl (by decide)) D2_118 (by decide)).trans ?_
    refine (Q_iadd zm_2 (Or.inl (by decide)) D2_119).trans ?_
    refine (Q_putI zm_2 (Or.inl (by decide)) D2_120 zf_0_52 zs_8_0 rfl (zkw_0 hcw).1).trans ?_
    exact Q_return zm_2 (Or.inl (by decide)) D2_123 rfl
  · refine (Q_aload_n zm_2 (Or.inl (by decide)) D2_63 rfl).trans ?_
    refine (Q_getR (q := cw) zm_2 (Or.inl (by decide)) D2_64 zf_0_22 zs_0_2 zk_102.1 rfl).trans ?_
    refine (Q_iload_n zm_2 (Or.inl (by decide)) D2_67 rfl).trans ?_
    exact Q_callv (as := [.int i1]) (b := cw) (rest := []) zm_2 (Or.inl (by decide)) D2_68 zc_0_76 rfl (zkw_0 hcw).1 (by decide) (by decide +kernel) (by decide) (by simp [zcat, Value.category]) zm_69 rfl

theorem b2_16 {d : Nat}  {ia : Nat → Nat → Int32} {la : Nat → Nat → Int64} {pl dr : Nat} {cp : Nat} {cw : Nat} {rp : Option Nat} {K : Option Value → zHP → Prop} (hcw : zIsW cw) : zWP (d + 1) 2 16 [some (.ref 102), none] [] (ia, la, zRA pl dr (some cp) (some cw) rp) K = zWM d 4 [.ref 102] (ia, la, zRA pl dr (some cp) (some cw) rp) (zK (d + 1) 2 28 [some (.ref 102), some (.int (ia cw 11))] [] K) := by
  refine (Q_aload_n zm_2 (Or.inl (by decide)) D2_16 rfl).trans ?_
  refine (Q_getR (q := cw) zm_2 (Or.inl (by decide)) D2_17 zf_0_22 zs_0_2 zk_102.1 rfl).trans ?_
  refine (Q_getI zm_2 (Or.inl (by decide)) D2_20 zf_0_60 (Or.inl zs_8_11) (zkw_0 hcw).1).trans ?_
  refine (Q_istore_n (ls' := [some (.ref 102), some (.int (ia cw 11))]) zm_2 (Or.inl (by decide)) D2_23 rfl (by simp) rfl).trans ?_
  refine (Q_aload_n zm_2 (Or.inl (by decide)) D2_24 rfl).trans ?_
  exact Q_callv (as := []) (b := 102) (rest := []) zm_2 (Or.inl (by decide)) D2_25 zc_0_63 rfl zk_102.1 (by decide) (by decide +kernel) (by decide) (by simp [zcat, Value.category]) zm_4 rfl

theorem b2_71 {d : Nat} {i1 : Int32} {s0 : Int32} {ia : Nat → Nat → Int32} {la : Nat → Nat → Int64} {pl dr : Nat} {cp : Nat} {cw : Nat} {rp : Option Nat} {K : Option Value → zHP → Prop} (hcw : zIsW cw) : zWP (d + 1) 2 71 [some (.ref 102), some (.int i1)] [.int s0] (ia, la, zRA pl dr (some cp) (some cw) rp) K = (if s0 = 0 then zWP (d + 1) 2 52 [some (.ref 102), some (.int (i1 + (1 : Int32)))] [] (ia, la, zRA pl dr (some cp) (some cw) rp) K else (vp_in i1 6 ∧ (vp_in i1 6 ∧ (vp_in i1 6 ∧ (if 0 < ((zu ia (cw + 4) (i1).toNatClampNeg ((ia (cw + 4) (i1).toNatClampNeg) - (1 : Int32))) (cw + 4) (i1).toNatClampNeg) then zWP (d + 1) 2 52 [some (.ref 102), some (.int (i1 + (1 : Int32)))] [] ((zu ia (cw + 4) (i1).toNatClampNeg ((ia (cw + 4) (i1).toNatClampNeg) - (1 : Int32))), la, zRA pl dr (some cp) (some cw) rp) K else zWM d 9 [.ref 102, .int i1] ((zu ia (cw + 4) (i1).toNatClampNeg ((ia (cw + 4) (i1).toNatClampNeg) - (1 : Int32))), la, zRA pl dr (some cp) (some cw) rp) (zK (d + 1) 2 104 [some (.ref 102), some (.int i1)] [] K)))))) := by
  refine (Q_if_eq (tgt := 104) zm_2 (Or.inl (by decide)) D2_71 (by decide)).trans ?_
  refine zif_c (fun h0_ => ?_) (fun h0_ => ?_)
  · refine (Q_iinc (v := 1) (ls' := [some (.ref 102), some (.int (i1 + (1 : Int32)))]) zm_2 (Or.inl (by decide)) D2_104 rfl rfl (by decide) rfl).trans ?_
    refine (Q_goto (tgt := 52) zm_2 (Or.inl (by decide)) D2_107 (by decide)).trans ?_
    rfl
  · refine (Q_aload_n zm_2 (Or.inl (by decide)) D2_74 rfl).trans ?_
    refine (Q_getR (q := cw) zm_2 (Or.inl (by decide)) D2_75 zf_0_22 zs_0_2 zk_102.1 rfl).trans ?_
    refine (Q_getR (q := (cw + 4)) zm_2 (Or.inl (by decide)) D2_78 zf_0_80 zs_8_5 (zkw_0 hcw).1 (zrw_5 hcw)).trans ?_
    refine (Q_iload_n zm_2 (Or.inl (by decide)) D2_81 rfl).trans ?_
    refine (Q_dup2 zm_2 (Or.inl (by decide)) D2_82 rfl rfl).trans ?_
    refine (Q_iaload zm_2 (Or.inl (by decide)) D2_83 (zkw_4 hcw).1 (zkw_4 hcw).2).trans ?_
    refine zand_c (fun h1_ => ?_)
    refine (Q_iconst (v := 1) zm_2 (Or.inl (by decide)) D2_84 (by decide)).trans ?_
    refine (Q_isub zm_2 (Or.inl (by decide)) D2_85).trans ?_
    refine (Q_iastore zm_2 (Or.inl (by decide)) D2_86 (zkw_4 hcw).1 (zkw_4 hcw).2).trans ?_
    refine zand_c (fun h2_ => ?_)
    refine (Q_aload_n zm_2 (Or.inl (by decide)) D2_87 rfl).trans ?_
    refine (Q_getR (q := cw) zm_2 (Or.inl (by decide)) D2_88 zf_0_22 zs_0_2 zk_102.1 rfl).trans ?_
    refine (Q_getR (q := (cw + 4)) zm_2 (Or.inl (by decide)) D2_91 zf_0_80 zs_8_5 (zkw_0 hcw).1 (zrw_5 hcw)).trans ?_
    refine (Q_iload_n zm_2 (Or.inl (by decide)) D2_94 rfl).trans ?_
    refine (Q_iaload zm_2 (Or.inl (by decide)) D2_95 (zkw_4 hcw).1 (zkw_4 hcw).2).trans ?_
    refine zand_c (fun h3_ => ?_)
    refine (Q_if_gt (tgt := 104) zm_2 (Or.inl (by decide)) D2_96 (by decide)).trans ?_
    refine zif_c (fun h4_ => ?_) (fun h4_ => ?_)
    · refine (Q_iinc (v := 1) (ls' := [some (.ref 102), some (.int (i1 + (1 : Int32)))]) zm_2 (Or.inl (by decide)) D2_104 rfl rfl (by decide) rfl).trans ?_
      refine (Q_goto (tgt := 52) zm_2 (Or.inl (by decide)) D2_107 (by decide)).trans ?_
      rfl
    · refine (Q_aload_n zm_2 (Or.inl (by decide)) D2_99 rfl).trans ?_
      refine (Q_iload_n zm_2 (Or.inl (by decide)) D2_100 rfl).trans ?_
      exact Q_callv (as := [.int i1]) (b := 102) (rest := []) zm_2 (Or.inl (by decide)) D2_101 zc_0_83 rfl zk_102.1 (by decide) (by decide +kernel) (by decide) (by simp [zcat, Value.category]) zm_9 rfl

theorem b2_28 {d : Nat} {i1 : Int32} {ia : Nat → Nat → Int32} {la : Nat → Nat → Int64} {pl dr : Nat} {cp : Nat} {cw : Nat} {rp : Option Nat} {K : Option Value → zHP → Prop} (hcw : zIsW cw) : zWP (d + 1) 2 28 [some (.ref 102), some (.int i1)] [] (ia, la, zRA pl dr (some cp) (some cw) rp) K = (if (ia cw 11) ≤ i1 then zWP (d + 1) 2 52 [some (.ref 102), some (.int (0 : Int32))] [] (ia, la, zRA pl dr (some cp) (some cw) rp) K else zWM d 7 [.ref 102] (ia, la, zRA pl dr (some cp) (some cw) rp) (zK (d + 1) 2 43 [some (.ref 102), some (.int i1)] [] K)) := by
  refine (Q_aload_n zm_2 (Or.inl (by decide)) D2_28 rfl).trans ?_
  refine (Q_getR (q := cw) zm_2 (Or.inl (by decide)) D2_29 zf_0_22 zs_0_2 zk_102.1 rfl).trans ?_
  refine (Q_getI zm_2 (Or.inl (by decide)) D2_32 zf_0_60 (Or.inl zs_8_11) (zkw_0 hcw).1).trans ?_
  refine (Q_iload_n zm_2 (Or.inl (by decide)) D2_35 rfl).trans ?_
  refine (Q_ic_le (tgt := 50) zm_2 (Or.inl (by decide)) D2_36 (by decide)).trans ?_
  refine zif_c (fun h0_ => ?_) (fun h0_ => ?_)
  · refine (Q_iconst (v := 0) zm_2 (Or.inl (by decide)) D2_50 (by decide)).trans ?_
    refine (Q_istore_n (ls' := [some (.ref 102), some (.int (0 : Int32))]) zm_2 (Or.inl (by decide)) D2_51 rfl (by simp) rfl).trans ?_
    rfl
  · refine (Q_aload_n zm_2 (Or.inl (by decide)) D2_39 rfl).trans ?_
    exact Q_callv (as := []) (b := 102) (rest := []) zm_2 (Or.inl (by decide)) D2_40 zc_0_66 rfl zk_102.1 (by decide) (by decide +kernel) (by decide) (by simp [zcat, Value.category]) zm_7 rfl

theorem b2_104 {d : Nat} {i1 : Int32} {ia : Nat → Nat → Int32} {la : Nat → Nat → Int64} {pl dr : Nat} {cp : Nat} {cw : Nat} {rp : Option Nat} {K : Option Value → zHP → Prop}  : zWP d 2 104 [some (.ref 102), some (.int i1)] [] (ia, la, zRA pl dr (some cp) (some cw) rp) K = zWP d 2 52 [some (.ref 102), some (.int (i1 + (1 : Int32)))] [] (ia, la, zRA pl dr (some cp) (some cw) rp) K := by
  refine (Q_iinc (v := 1) (ls' := [some (.ref 102), some (.int (i1 + (1 : Int32)))]) zm_2 (Or.inl (by decide)) D2_104 rfl rfl (by decide) rfl).trans ?_
  refine (Q_goto (tgt := 52) zm_2 (Or.inl (by decide)) D2_107 (by decide)).trans ?_
  rfl

theorem b2_43 {d : Nat} {i1 : Int32} {s0 : Int32} {ia : Nat → Nat → Int32} {la : Nat → Nat → Int64} {pl dr : Nat} {cp : Nat} {cw : Nat} {rp : Option Nat} {K : Option Value → zHP → Prop}  : zWP (d + 1) 2 43 [some (.ref 102), some (.int i1)] [.int s0] (ia, la, zRA pl dr (some cp) (some cw) rp) K = (if s0 = 0 then zWP (d + 1) 2 52 [some (.ref 102), some (.int (0 : Int32))] [] (ia, la, zRA pl dr (some cp) (some cw) rp) K else zWM d 8 [.ref 102] (ia, la, zRA pl dr (some cp) (some cw) rp) (zK (d + 1) 2 50 [some (.ref 102), some (.int i1)] [] K)) := by
  refine (Q_if_eq (tgt := 50) zm_2 (Or.inl (by decide)) D2_43 (by decide)).trans ?_
  refine zif_c (fun h0_ => ?_) (fun h0_ => ?_)
  · refine (Q_iconst (v := 0) zm_2 (Or.inl (by decide)) D2_50 (by decide)).trans ?_
    refine (Q_istore_n (ls' := [some (.ref 102), some (.int (0 : Int32))]) zm_2 (Or.inl (by decide)) D2_51 rfl (by simp) rfl).trans ?_
    rfl
  · refine (Q_aload_n zm_2 (Or.inl (by decide)) D2_46 rfl).trans ?_
    exact Q_callv (as := []) (b := 102) (rest := []) zm_2 (Or.inl (by decide)) D2_47 zc_0_70 rfl zk_102.1 (by decide) (by decide +kernel) (by decide) (by simp [zcat, Value.category]) zm_8 rfl

theorem b2_50 {d : Nat} {a1 : Option Value} {ia : Nat → Nat → Int32} {la : Nat → Nat → Int64} {pl dr : Nat} {cp : Nat} {cw : Nat} {rp : Option Nat} {K : Option Value → zHP → Prop}  : zWP d 2 50 [some (.ref 102), a1] [] (ia, la, zRA pl dr (some cp) (some cw) rp) K = zWP d 2 52 [some (.ref 102), some (.int (0 : Int32))] [] (ia, la, zRA pl dr (some cp) (some cw) rp) K := by
  refine (Q_iconst (v := 0) zm_2 (Or.inl (by decide)) D2_50 (by decide)).trans ?_
  refine (Q_istore_n (ls' := [some (.ref 102), some (.int (0 : Int32))]) zm_2 (Or.inl (by decide)) D2_51 rfl (by simp) rfl).trans ?_
  rfl

/-! HandsLet$Course.bankLooks()Z -/
theorem D7_0 : decode prog_2_method_9_code 0 = .ok (.aload_n 0, 1) := by decide +kernel
theorem D7_1 : decode prog_2_method_9_code 1 = .ok (.getfield 18, 3) := by decide +kernel
theorem D7_4 : decode prog_2_method_9_code 4 = .ok (.getfield 30, 3) := by decide +kernel
theorem D7_7 : decode prog_2_method_9_code 7 = .ok (.iconst 1, 1) := by decide +kernel
theorem D7_8 : decode prog_2_method_9_code 8 = .ok (.iaload, 1) := by decide +kernel
theorem D7_9 : decode prog_2_method_9_code 9 = .ok (.istore_n 1, 1) := by decide +kernel
theorem D7_10 : decode prog_2_method_9_code 10 = .ok (.aload_n 0, 1) := by decide +kernel
theorem D7_11 : decode prog_2_method_9_code 11 = .ok (.getfield 26, 3) := by decide +kernel
theorem D7_14 : decode prog_2_method_9_code 14 = .ok (.tableswitch 42 1 3 #[30, 26, 28], 26) := by decide +kernel
theorem D7_40 : decode prog_2_method_9_code 40 = .ok (.iconst 0, 1) := by decide +kernel
theorem D7_41 : decode prog_2_method_9_code 41 = .ok (.ireturn, 1) := by decide +kernel
theorem D7_42 : decode prog_2_method_9_code 42 = .ok (.iconst 1, 1) := by decide +kernel
theorem D7_43 : decode prog_2_method_9_code 43 = .ok (.ireturn, 1) := by decide +kernel
theorem D7_44 : decode prog_2_method_9_code 44 = .ok (.iload_n 1, 1) := by decide +kernel
theorem D7_45 : decode prog_2_method_9_code 45 = .ok (.bipush 50, 2) := by decide +kernel
theorem D7_47 : decode prog_2_method_9_code 47 = .ok (.if_icmp .lt 7, 3) := by decide +kernel
theorem D7_50 : decode prog_2_method_9_code 50 = .ok (.iconst 1, 1) := by decide +kernel
theorem D7_51 : decode prog_2_method_9_code 51 = .ok (.goto 4, 3) := by decide +kernel
theorem D7_54 : decode prog_2_method_9_code 54 = .ok (.iconst 0, 1) := by decide +kernel
theorem D7_55 : decode prog_2_method_9_code 55 = .ok (.ireturn, 1) := by decide +kernel
theorem D7_56 : decode prog_2_method_9_code 56 = .ok (.iload_n 1, 1) := by decide +kernel
theorem D7_57 : decode prog_2_method_9_code 57 = .ok (.bipush 100, 2) := by decide +kernel
theorem D7_59 : decode prog_2_method_9_code 59 = .ok (.if_icmp .eq 21, 3) := by decide +kernel
theorem D7_62 : decode prog_2_method_9_code 62 = .ok (.iload_n 1, 1) := by decide +kernel
theorem D7_63 : decode prog_2_method_9_code 63 = .ok (.ifCond .le 21, 3) := by decide +kernel
theorem D7_66 : decode prog_2_method_9_code 66 = .ok (.aload_n 0, 1) := by decide +kernel
theorem D7_67 : decode prog_2_method_9_code 67 = .ok (.getfield 22, 3) := by decide +kernel
theorem D7_70 : decode prog_2_method_9_code 70 = .ok (.invokevirtual 142, 3) := by decide +kernel
theorem D7_73 : decode prog_2_method_9_code 73 = .ok (.bipush 100, 2) := by decide +kernel
theorem D7_75 : decode prog_2_method_9_code 75 = .ok (.irem, 1) := by decide +kernel
theorem D7_76 : decode prog_2_method_9_code 76 = .ok (.iload_n 1, 1) := by decide +kernel
theorem D7_77 : decode prog_2_method_9_code 77 = .ok (.if_icmp .ge 7, 3) := by decide +kernel
theorem D7_80 : decode prog_2_method_9_code 80 = .ok (.iconst 1, 1) := by decide +kernel
theorem D7_81 : decode prog_2_method_9_code 81 = .ok (.goto 4, 3) := by decide +kernel
theorem D7_84 : decode prog_2_method_9_code 84 = .ok (.iconst 0, 1) := by decide +kernel
theorem D7_85 : decode prog_2_method_9_code 85 = .ok (.ireturn, 1) := by decide +kernel

theorem b7_0 {d : Nat}  {ia : Nat → Nat → Int32} {la : Nat → Nat → Int64} {pl dr : Nat} {cp : Nat} {cw : Nat} {rp : Option Nat} {K : Option Value → zHP → Prop} (hcp : zIsP cp) (hcw : zIsW cw) : zWP (d + 1) 7 0 [some (.ref 102), none] [] (ia, la, zRA pl dr (some cp) (some cw) rp) K = (if (ia 102 3) = 1 then (if (ia (cp + 28) ((1 : Int32)).toNatClampNeg) < (50 : Int32) then K (some (.int (0 : Int32))) (ia, la, zRA pl dr (some cp) (some cw) rp) else K (some (.int (1 : Int32))) (ia, la, zRA pl dr (some cp) (some cw) rp)) else (if (ia 102 3) = 2 then K (some (.int (0 : Int32))) (ia, la, zRA pl dr (some cp) (some cw) rp) else (if (ia 102 3) = 3 then K (some (.int (1 : Int32))) (ia, la, zRA pl dr (some cp) (some cw) rp) else (if (ia (cp + 28) ((1 : Int32)).toNatClampNeg) = (100 : Int32) then K (some (.int (1 : Int32))) (ia, la, zRA pl dr (some cp) (some cw) rp) else (if (ia (cp + 28) ((1 : Int32)).toNatClampNeg) ≤ 0 then K (some (.int (0 : Int32))) (ia, la, zRA pl dr (some cp) (some cw) rp) else zWM d 73 [.ref cw] (ia, la, zRA pl dr (some cp) (some cw) rp) (zK (d + 1) 7 73 [some (.ref 102), some (.int (ia (cp + 28) ((1 : Int32)).toNatClampNeg))] [] K)))))) := by
  refine (Q_aload_n zm_7 (Or.inl (by decide)) D7_0 rfl).trans ?_
  refine (Q_getR (q := cp) zm_7 (Or.inl (by decide)) D7_1 zf_0_18 zs_0_1 zk_102.1 rfl).trans ?_
  refine (Q_getR (q := (cp + 28)) zm_7 (Or.inl (by decide)) D7_4 zf_0_30 zs_3_10 (zkp_0 hcp).1 (zrp_10 hcp)).trans ?_
  refine (Q_iconst (v := 1) zm_7 (Or.inl (by decide)) D7_7 (by decide)).trans ?_
  refine ((Q_iaload zm_7 (Or.inl (by decide)) D7_8 (zkp_28 hcp).1 (zkp_28 hcp).2).trans (zdrop (zin_spec (by decide)))).trans ?_
  refine (Q_istore_n (ls' := [some (.ref 102), some (.int (ia (cp + 28) ((1 : Int32)).toNatClampNeg))]) zm_7 (Or.inl (by decide)) D7_9 rfl (by simp) rfl).trans ?_
  refine (Q_aload_n zm_7 (Or.inl (by decide)) D7_10 rfl).trans ?_
  refine (Q_getI zm_7 (Or.inl (by decide)) D7_11 zf_0_26 (Or.inl zs_0_3) zk_102.1).trans ?_
  by_cases h0_ : (ia 102 3) = 1
  · rw [if_pos h0_]
    refine (congrArg (fun q => zWP (d + 1) 7 14 [some (.ref 102), some (.int (ia (cp + 28) ((1 : Int32)).toNatClampNeg))] (.int q :: []) (ia, la, zRA pl dr (some cp) (some cw) rp) K) h0_).trans ?_
    refine (Q_tsw (tgt := 44) zm_7 (Or.inl (by decide)) D7_14 rfl (by decide)).trans ?_
    refine (Q_iload_n zm_7 (Or.inl (by decide)) D7_44 rfl).trans ?_
    refine (Q_bipush (v := 50) zm_7 (Or.inl (by decide)) D7_45 (by decide)).trans ?_
    refine (Q_ic_lt (tgt := 54) zm_7 (Or.inl (by decide)) D7_47 (by decide)).trans ?_
    refine zif_c (fun h1_ => ?_) (fun h1_ => ?_)
    · refine (Q_iconst (v := 0) zm_7 (Or.inl (by decide)) D7_54 (by decide)).trans ?_
      exact Q_zreturn zm_7 (Or.inl (by decide)) D7_55 rfl (by decide)
    · refine (Q_iconst (v := 1) zm_7 (Or.inl (by decide)) D7_50 (by decide)).trans ?_
      refine (Q_goto (tgt := 55) zm_7 (Or.inl (by decide)) D7_51 (by decide)).trans ?_
      exact Q_zreturn zm_7 (Or.inl (by decide)) D7_55 rfl (by decide)
  rw [if_neg h0_]
  by_cases h2_ : (ia 102 3) = 2
  · rw [if_pos h2_]
    refine (congrArg (fun q => zWP (d + 1) 7 14 [some (.ref 102), some (.int (ia (cp + 28) ((1 : Int32)).toNatClampNeg))] (.int q :: []) (ia, la, zRA pl dr (some cp) (some cw) rp) K) h2_).trans ?_
    refine (Q_tsw (tgt := 40) zm_7 (Or.inl (by decide)) D7_14 rfl (by decide)).trans ?_
    refine (Q_iconst (v := 0) zm_7 (Or.inl (by decide)) D7_40 (by decide)).trans ?_
    exact Q_zreturn zm_7 (Or.inl (by decide)) D7_41 rfl (by decide)
  rw [if_neg h2_]
  by_cases h3_ : (ia 102 3) = 3
  · rw [if_pos h3_]
    refine (congrArg (fun q => zWP (d + 1) 7 14 [some (.ref 102), some (.int (ia (cp + 28) ((1 : Int32)).toNatClampNeg))] (.int q :: []) (ia, la, zRA pl dr (some cp) (some cw) rp) K) h3_).trans ?_
    refine (Q_tsw (tgt := 42) zm_7 (Or.inl (by decide)) D7_14 rfl (by decide)).trans ?_
    refine (Q_iconst (v := 1) zm_7 (Or.inl (by decide)) D7_42 (by decide)).trans ?_
    exact Q_zreturn zm_7 (Or.inl (by decide)) D7_43 rfl (by decide)
  rw [if_neg h3_]
  refine (Q_tsw (tgt := 56) zm_7 (Or.inl (by decide)) D7_14 (zsw_out (n := 3) (by decide) (fun q hq => ?_)) (by decide)).trans ?_
  · rcases (show q = 0 ∨ q = 1 ∨ q = 2 by omega) with rfl | rfl | rfl
    · exact h0_
    · exact h2_
    · exact h3_
  refine (Q_iload_n zm_7 (Or.inl (by decide)) D7_56 rfl).trans ?_
  refine (Q_bipush (v := 100) zm_7 (Or.inl (by decide)) D7_57 (by decide)).trans ?_
  refine (Q_ic_eq (tgt := 80) zm_7 (Or.inl (by decide)) D7_59 (by decide)).trans ?_
  refine zif_c (fun h4_ => ?_) (fun h4_ => ?_)
  · refine (Q_iconst (v := 1) zm_7 (Or.inl (by decide)) D7_80 (by decide)).trans ?_
    refine (Q_goto (tgt := 85) zm_7 (Or.inl (by decide)) D7_81 (by decide)).trans ?_
    exact Q_zreturn zm_7 (Or.inl (by decide)) D7_85 rfl (by decide)
  · refine (Q_iload_n zm_7 (Or.inl (by decide)) D7_62 rfl).trans ?_
    refine (Q_if_le (tgt := 84) zm_7 (Or.inl (by decide)) D7_63 (by decide)).trans ?_
    refine zif_c (fun h5_ => ?_) (fun h5_ => ?_)
    · refine (Q_iconst (v := 0) zm_7 (Or.inl (by decide)) D7_84 (by decide)).trans ?_
      exact Q_zreturn zm_7 (Or.inl (by decide)) D7_85 rfl (by decide)
    · refine (Q_aload_n zm_7 (Or.inl (by decide)) D7_66 rfl).trans ?_
      refine (Q_getR (q := cw) zm_7 (Or.inl (by decide)) D7_67 zf_0_22 zs_0_2 zk_102.1 rfl).trans ?_
      exact Q_callv (as := []) (b := cw) (rest := []) zm_7 (Or.inl (by decide)) D7_70 zc_0_142 rfl (zkw_0 hcw).1 (by decide) (by decide +kernel) (by decide) (by simp [zcat, Value.category]) zm_73 rfl

theorem b7_73 {d : Nat} {i1 : Int32} {s0 : Int32} {ia : Nat → Nat → Int32} {la : Nat → Nat → Int64} {pl dr : Nat} {cp : Nat} {cw : Nat} {rp : Option Nat} {K : Option Value → zHP → Prop}  : zWP d 7 73 [some (.ref 102), some (.int i1)] [.int s0] (ia, la, zRA pl dr (some cp) (some cw) rp) K = (if i1 ≤ (s0 - s0 / (100 : Int32) * (100 : Int32)) then K (some (.int (0 : Int32))) (ia, la, zRA pl dr (some cp) (some cw) rp) else K (some (.int (1 : Int32))) (ia, la, zRA pl dr (some cp) (some cw) rp)) := by
  refine (Q_bipush (v := 100) zm_7 (Or.inl (by decide)) D7_73 (by decide)).trans ?_
  refine (Q_irem zm_7 (Or.inl (by decide)) D7_75 (by decide)).trans ?_
  refine (Q_iload_n zm_7 (Or.inl (by decide)) D7_76 rfl).trans ?_
  refine (Q_ic_ge (tgt := 84) zm_7 (Or.inl (by decide)) D7_77 (by decide)).trans ?_
  refine zif_c (fun h0_ => ?_) (fun h0_ => ?_)
  · refine (Q_iconst (v := 0) zm_7 (Or.inl (by decide)) D7_84 (by decide)).trans ?_
    exact Q_zreturn zm_7 (Or.inl (by decide)) D7_85 rfl (by decide)
  · refine (Q_iconst (v := 1) zm_7 (Or.inl (by decide)) D7_80 (by decide)).trans ?_
    refine (Q_goto (tgt := 85) zm_7 (Or.inl (by decide)) D7_81 (by decide)).trans ?_
    exact Q_zreturn zm_7 (Or.inl (by decide)) D7_85 rfl (by decide)
