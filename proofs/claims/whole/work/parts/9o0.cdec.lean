/-! the instructions of the constructors and of what they call, as lists -/
theorem dk0_0 : decode prog_2_method_1_code 0 = .ok (.aload_n 0, 1) := by decide +kernel
theorem dk0_1 : decode prog_2_method_1_code 1 = .ok (.invokespecial 3, 3) := by decide +kernel
theorem dk0_4 : decode prog_2_method_1_code 4 = .ok (.aload_n 0, 1) := by decide +kernel
theorem dk0_5 : decode prog_2_method_1_code 5 = .ok (.new 9, 3) := by decide +kernel
theorem dk0_8 : decode prog_2_method_1_code 8 = .ok (.dup, 1) := by decide +kernel
theorem dk0_9 : decode prog_2_method_1_code 9 = .ok (.invokespecial 11, 3) := by decide +kernel
theorem dk0_12 : decode prog_2_method_1_code 12 = .ok (.putfield 12, 3) := by decide +kernel
theorem dk0_15 : decode prog_2_method_1_code 15 = .ok (.return_, 1) := by decide +kernel
def dk_0 : List (Nat × Instr × Nat) := [(0, .aload_n 0, 1), (1, .invokespecial 3, 3), (4, .aload_n 0, 1), (5, .new 9, 3), (8, .dup, 1), (9, .invokespecial 11, 3), (12, .putfield 12, 3), (15, .return_, 1)]
set_option maxRecDepth 20000 in
theorem dk_0_ok : ∀ r ∈ dk_0, decode prog_2_method_1_code r.1 = .ok r.2 := List.forall_mem_cons.mpr ⟨dk0_0, List.forall_mem_cons.mpr ⟨dk0_1, List.forall_mem_cons.mpr ⟨dk0_4, List.forall_mem_cons.mpr ⟨dk0_5, List.forall_mem_cons.mpr ⟨dk0_8, List.forall_mem_cons.mpr ⟨dk0_9, List.forall_mem_cons.mpr ⟨dk0_12, List.forall_mem_cons.mpr ⟨dk0_15, fun _ h => absurd h List.not_mem_nil⟩⟩⟩⟩⟩⟩⟩⟩
theorem dk1_0 : decode prog_3_method_1_code 0 = .ok (.aload_n 0, 1) := by decide +kernel
theorem dk1_1 : decode prog_3_method_1_code 1 = .ok (.invokespecial 3, 3) := by decide +kernel
theorem dk1_4 : decode prog_3_method_1_code 4 = .ok (.aload_n 0, 1) := by decide +kernel
theorem dk1_5 : decode prog_3_method_1_code 5 = .ok (.sipush 260, 3) := by decide +kernel
theorem dk1_8 : decode prog_3_method_1_code 8 = .ok (.newarray .int, 2) := by decide +kernel
theorem dk1_10 : decode prog_3_method_1_code 10 = .ok (.putfield 11, 3) := by decide +kernel
theorem dk1_13 : decode prog_3_method_1_code 13 = .ok (.return_, 1) := by decide +kernel
def dk_1 : List (Nat × Instr × Nat) := [(0, .aload_n 0, 1), (1, .invokespecial 3, 3), (4, .aload_n 0, 1), (5, .sipush 260, 3), (8, .newarray .int, 2), (10, .putfield 11, 3), (13, .return_, 1)]
set_option maxRecDepth 20000 in
theorem dk_1_ok : ∀ r ∈ dk_1, decode prog_3_method_1_code r.1 = .ok r.2 := List.forall_mem_cons.mpr ⟨dk1_0, List.forall_mem_cons.mpr ⟨dk1_1, List.forall_mem_cons.mpr ⟨dk1_4, List.forall_mem_cons.mpr ⟨dk1_5, List.forall_mem_cons.mpr ⟨dk1_8, List.forall_mem_cons.mpr ⟨dk1_10, List.forall_mem_cons.mpr ⟨dk1_13, fun _ h => absurd h List.not_mem_nil⟩⟩⟩⟩⟩⟩⟩
theorem dk2_0 : decode prog_4_method_1_code 0 = .ok (.aload_n 0, 1) := by decide +kernel
theorem dk2_1 : decode prog_4_method_1_code 1 = .ok (.invokespecial 3, 3) := by decide +kernel
theorem dk2_4 : decode prog_4_method_1_code 4 = .ok (.aload_n 0, 1) := by decide +kernel
theorem dk2_5 : decode prog_4_method_1_code 5 = .ok (.bipush 36, 2) := by decide +kernel
theorem dk2_7 : decode prog_4_method_1_code 7 = .ok (.newarray .int, 2) := by decide +kernel
theorem dk2_9 : decode prog_4_method_1_code 9 = .ok (.putfield 9, 3) := by decide +kernel
theorem dk2_12 : decode prog_4_method_1_code 12 = .ok (.aload_n 0, 1) := by decide +kernel
theorem dk2_13 : decode prog_4_method_1_code 13 = .ok (.bipush 7, 2) := by decide +kernel
theorem dk2_15 : decode prog_4_method_1_code 15 = .ok (.bipush 64, 2) := by decide +kernel
theorem dk2_17 : decode prog_4_method_1_code 17 = .ok (.multianewarray 15 2, 4) := by decide +kernel
theorem dk2_21 : decode prog_4_method_1_code 21 = .ok (.putfield 17, 3) := by decide +kernel
theorem dk2_24 : decode prog_4_method_1_code 24 = .ok (.aload_n 0, 1) := by decide +kernel
theorem dk2_25 : decode prog_4_method_1_code 25 = .ok (.bipush 6, 2) := by decide +kernel
theorem dk2_27 : decode prog_4_method_1_code 27 = .ok (.newarray .int, 2) := by decide +kernel
theorem dk2_29 : decode prog_4_method_1_code 29 = .ok (.putfield 20, 3) := by decide +kernel
theorem dk2_32 : decode prog_4_method_1_code 32 = .ok (.return_, 1) := by decide +kernel
def dk_2 : List (Nat × Instr × Nat) := [(0, .aload_n 0, 1), (1, .invokespecial 3, 3), (4, .aload_n 0, 1), (5, .bipush 36, 2), (7, .newarray .int, 2), (9, .putfield 9, 3), (12, .aload_n 0, 1), (13, .bipush 7, 2), (15, .bipush 64, 2), (17, .multianewarray 15 2, 4), (21, .putfield 17, 3), (24, .aload_n 0, 1), (25, .bipush 6, 2), (27, .newarray .int, 2), (29, .putfield 20, 3), (32, .return_, 1)]
set_option maxRecDepth 20000 in
theorem dk_2_ok : ∀ r ∈ dk_2, decode prog_4_method_1_code r.1 = .ok r.2 := List.forall_mem_cons.mpr ⟨dk2_0, List.forall_mem_cons.mpr ⟨dk2_1, List.forall_mem_cons.mpr ⟨dk2_4, List.forall_mem_cons.mpr ⟨dk2_5, List.forall_mem_cons.mpr ⟨dk2_7, List.forall_mem_cons.mpr ⟨dk2_9, List.forall_mem_cons.mpr ⟨dk2_12, List.forall_mem_cons.mpr ⟨dk2_13, List.forall_mem_cons.mpr ⟨dk2_15, List.forall_mem_cons.mpr ⟨dk2_17, List.forall_mem_cons.mpr ⟨dk2_21, List.forall_mem_cons.mpr ⟨dk2_24, List.forall_mem_cons.mpr ⟨dk2_25, List.forall_mem_cons.mpr ⟨dk2_27, List.forall_mem_cons.mpr ⟨dk2_29, List.forall_mem_cons.mpr ⟨dk2_32, fun _ h => absurd h List.not_mem_nil⟩⟩⟩⟩⟩⟩⟩⟩⟩⟩⟩⟩⟩⟩⟩⟩
theorem dk3_0 : decode prog_5_method_1_code 0 = .ok (.aload_n 0, 1) := by decide +kernel
theorem dk3_1 : decode prog_5_method_1_code 1 = .ok (.invokespecial 3, 3) := by decide +kernel
theorem dk3_4 : decode prog_5_method_1_code 4 = .ok (.aload_n 0, 1) := by decide +kernel
theorem dk3_5 : decode prog_5_method_1_code 5 = .ok (.bipush 6, 2) := by decide +kernel
theorem dk3_7 : decode prog_5_method_1_code 7 = .ok (.newarray .int, 2) := by decide +kernel
theorem dk3_9 : decode prog_5_method_1_code 9 = .ok (.putfield 9, 3) := by decide +kernel
theorem dk3_12 : decode prog_5_method_1_code 12 = .ok (.aload_n 0, 1) := by decide +kernel
theorem dk3_13 : decode prog_5_method_1_code 13 = .ok (.bipush 18, 2) := by decide +kernel
theorem dk3_15 : decode prog_5_method_1_code 15 = .ok (.newarray .int, 2) := by decide +kernel
theorem dk3_17 : decode prog_5_method_1_code 17 = .ok (.putfield 15, 3) := by decide +kernel
theorem dk3_20 : decode prog_5_method_1_code 20 = .ok (.aload_n 0, 1) := by decide +kernel
theorem dk3_21 : decode prog_5_method_1_code 21 = .ok (.bipush 6, 2) := by decide +kernel
theorem dk3_23 : decode prog_5_method_1_code 23 = .ok (.newarray .int, 2) := by decide +kernel
theorem dk3_25 : decode prog_5_method_1_code 25 = .ok (.putfield 18, 3) := by decide +kernel
theorem dk3_28 : decode prog_5_method_1_code 28 = .ok (.aload_n 0, 1) := by decide +kernel
theorem dk3_29 : decode prog_5_method_1_code 29 = .ok (.bipush 10, 2) := by decide +kernel
theorem dk3_31 : decode prog_5_method_1_code 31 = .ok (.iconst 5, 1) := by decide +kernel
theorem dk3_32 : decode prog_5_method_1_code 32 = .ok (.multianewarray 21 2, 4) := by decide +kernel
theorem dk3_36 : decode prog_5_method_1_code 36 = .ok (.putfield 23, 3) := by decide +kernel
theorem dk3_39 : decode prog_5_method_1_code 39 = .ok (.aload_n 0, 1) := by decide +kernel
theorem dk3_40 : decode prog_5_method_1_code 40 = .ok (.bipush 12, 2) := by decide +kernel
theorem dk3_42 : decode prog_5_method_1_code 42 = .ok (.iconst 3, 1) := by decide +kernel
theorem dk3_43 : decode prog_5_method_1_code 43 = .ok (.multianewarray 21 2, 4) := by decide +kernel
theorem dk3_47 : decode prog_5_method_1_code 47 = .ok (.putfield 26, 3) := by decide +kernel
theorem dk3_50 : decode prog_5_method_1_code 50 = .ok (.aload_n 0, 1) := by decide +kernel
theorem dk3_51 : decode prog_5_method_1_code 51 = .ok (.iconst 3, 1) := by decide +kernel
theorem dk3_52 : decode prog_5_method_1_code 52 = .ok (.newarray .int, 2) := by decide +kernel
theorem dk3_54 : decode prog_5_method_1_code 54 = .ok (.dup, 1) := by decide +kernel
theorem dk3_55 : decode prog_5_method_1_code 55 = .ok (.iconst 0, 1) := by decide +kernel
theorem dk3_56 : decode prog_5_method_1_code 56 = .ok (.bipush 20, 2) := by decide +kernel
theorem dk3_58 : decode prog_5_method_1_code 58 = .ok (.iastore, 1) := by decide +kernel
theorem dk3_59 : decode prog_5_method_1_code 59 = .ok (.dup, 1) := by decide +kernel
theorem dk3_60 : decode prog_5_method_1_code 60 = .ok (.iconst 1, 1) := by decide +kernel
theorem dk3_61 : decode prog_5_method_1_code 61 = .ok (.iconst 0, 1) := by decide +kernel
theorem dk3_62 : decode prog_5_method_1_code 62 = .ok (.iastore, 1) := by decide +kernel
theorem dk3_63 : decode prog_5_method_1_code 63 = .ok (.dup, 1) := by decide +kernel
theorem dk3_64 : decode prog_5_method_1_code 64 = .ok (.iconst 2, 1) := by decide +kernel
theorem dk3_65 : decode prog_5_method_1_code 65 = .ok (.iconst 0, 1) := by decide +kernel
theorem dk3_66 : decode prog_5_method_1_code 66 = .ok (.iastore, 1) := by decide +kernel
theorem dk3_67 : decode prog_5_method_1_code 67 = .ok (.putfield 29, 3) := by decide +kernel
theorem dk3_70 : decode prog_5_method_1_code 70 = .ok (.aload_n 0, 1) := by decide +kernel
theorem dk3_71 : decode prog_5_method_1_code 71 = .ok (.iconst 3, 1) := by decide +kernel
theorem dk3_72 : decode prog_5_method_1_code 72 = .ok (.newarray .int, 2) := by decide +kernel
theorem dk3_74 : decode prog_5_method_1_code 74 = .ok (.putfield 32, 3) := by decide +kernel
theorem dk3_77 : decode prog_5_method_1_code 77 = .ok (.aload_n 0, 1) := by decide +kernel
theorem dk3_78 : decode prog_5_method_1_code 78 = .ok (.iconst 3, 1) := by decide +kernel
theorem dk3_79 : decode prog_5_method_1_code 79 = .ok (.newarray .int, 2) := by decide +kernel
theorem dk3_81 : decode prog_5_method_1_code 81 = .ok (.putfield 35, 3) := by decide +kernel
theorem dk3_84 : decode prog_5_method_1_code 84 = .ok (.aload_n 0, 1) := by decide +kernel
theorem dk3_85 : decode prog_5_method_1_code 85 = .ok (.bipush 64, 2) := by decide +kernel
theorem dk3_87 : decode prog_5_method_1_code 87 = .ok (.newarray .int, 2) := by decide +kernel
theorem dk3_89 : decode prog_5_method_1_code 89 = .ok (.putfield 38, 3) := by decide +kernel
theorem dk3_92 : decode prog_5_method_1_code 92 = .ok (.aload_n 0, 1) := by decide +kernel
theorem dk3_93 : decode prog_5_method_1_code 93 = .ok (.bipush 64, 2) := by decide +kernel
theorem dk3_95 : decode prog_5_method_1_code 95 = .ok (.newarray .int, 2) := by decide +kernel
theorem dk3_97 : decode prog_5_method_1_code 97 = .ok (.putfield 41, 3) := by decide +kernel
theorem dk3_100 : decode prog_5_method_1_code 100 = .ok (.return_, 1) := by decide +kernel
def dk_3 : List (Nat × Instr × Nat) := [(0, .aload_n 0, 1), (1, .invokespecial 3, 3), (4, .aload_n 0, 1), (5, .bipush 6, 2), (7, .newarray .int, 2), (9, .putfield 9, 3), (12, .aload_n 0, 1), (13, .bipush 18, 2), (15, .newarray .int, 2), (17, .putfield 15, 3), (20, .aload_n 0, 1), (21, .bipush 6, 2), (23, .newarray .int, 2), (25, .putfield 18, 3), (28, .aload_n 0, 1), (29, .bipush 10, 2), (31, .iconst 5, 1), (32, .multianewarray 21 2, 4), (36, .putfield 23, 3), (39, .aload_n 0, 1), (40, .bipush 12, 2), (42, .iconst 3, 1), (43, .multianewarray 21 2, 4), (47, .putfield 26, 3), (50, .aload_n 0, 1), (51, .iconst 3, 1), (52, .newarray .int, 2), (54, .dup, 1), (55, .iconst 0, 1), (56, .bipush 20, 2), (58, .iastore, 1), (59, .dup, 1), (60, .iconst 1, 1), (61, .iconst 0, 1), (62, .iastore, 1), (63, .dup, 1), (64, .iconst 2, 1), (65, .iconst 0, 1), (66, .iastore, 1), (67, .putfield 29, 3), (70, .aload_n 0, 1), (71, .iconst 3, 1), (72, .newarray .int, 2), (74, .putfield 32, 3), (77, .aload_n 0, 1), (78, .iconst 3, 1), (79, .newarray .int, 2), (81, .putfield 35, 3), (84, .aload_n 0, 1), (85, .bipush 64, 2), (87, .newarray .int, 2), (89, .putfield 38, 3), (92, .aload_n 0, 1), (93, .bipush 64, 2), (95, .newarray .int, 2), (97, .putfield 41, 3), (100, .return_, 1)]
set_option maxRecDepth 20000 in
theorem dk_3_ok : ∀ r ∈ dk_3, decode prog_5_method_1_code r.1 = .ok r.2 := List.forall_mem_cons.mpr ⟨dk3_0, List.forall_mem_cons.mpr ⟨dk3_1, List.forall_mem_cons.mpr ⟨dk3_4, List.forall_mem_cons.mpr ⟨dk3_5, List.forall_mem_cons.mpr ⟨dk3_7, List.forall_mem_cons.mpr ⟨dk3_9, List.forall_mem_cons.mpr ⟨dk3_12, List.forall_mem_cons.mpr ⟨dk3_13, List.forall_mem_cons.mpr ⟨dk3_15, List.forall_mem_cons.mpr ⟨dk3_17, List.forall_mem_cons.mpr ⟨dk3_20, List.forall_mem_cons.mpr ⟨dk3_21, List.forall_mem_cons.mpr ⟨dk3_23, List.forall_mem_cons.mpr ⟨dk3_25, List.forall_mem_cons.mpr ⟨dk3_28, List.forall_mem_cons.mpr ⟨dk3_29, List.forall_mem_cons.mpr ⟨dk3_31, List.forall_mem_cons.mpr ⟨dk3_32, List.forall_mem_cons.mpr ⟨dk3_36, List.forall_mem_cons.mpr ⟨dk3_39, List.forall_mem_cons.mpr ⟨dk3_40, List.forall_mem_cons.mpr ⟨dk3_42, List.forall_mem_cons.mpr ⟨dk3_43, List.forall_mem_cons.mpr ⟨dk3_47, List.forall_mem_cons.mpr ⟨dk3_50, List.forall_mem_cons.mpr ⟨dk3_51, List.forall_mem_cons.mpr ⟨dk3_52, List.forall_mem_cons.mpr ⟨dk3_54, List.forall_mem_cons.mpr ⟨dk3_55, List.forall_mem_cons.mpr ⟨dk3_56, List.forall_mem_cons.mpr ⟨dk3_58, List.forall_mem_cons.mpr ⟨dk3_59, List.forall_mem_cons.mpr ⟨dk3_60, List.forall_mem_cons.mpr ⟨dk3_61, List.forall_mem_cons.mpr ⟨dk3_62, List.forall_mem_cons.mpr ⟨dk3_63, List.forall_mem_cons.mpr ⟨dk3_64, List.forall_mem_cons.mpr ⟨dk3_65, List.forall_mem_cons.mpr ⟨dk3_66, List.forall_mem_cons.mpr ⟨dk3_67, List.forall_mem_cons.mpr ⟨dk3_70, List.forall_mem_cons.mpr ⟨dk3_71, List.forall_mem_cons.mpr ⟨dk3_72, List.forall_mem_cons.mpr ⟨dk3_74, List.forall_mem_cons.mpr ⟨dk3_77, List.forall_mem_cons.mpr ⟨dk3_78, List.forall_mem_cons.mpr ⟨dk3_79, List.forall_mem_cons.mpr ⟨dk3_81, List.forall_mem_cons.mpr ⟨dk3_84, List.forall_mem_cons.mpr ⟨dk3_85, List.forall_mem_cons.mpr ⟨dk3_87, List.forall_mem_cons.mpr ⟨dk3_89, List.forall_mem_cons.mpr ⟨dk3_92, List.forall_mem_cons.mpr ⟨dk3_93, List.forall_mem_cons.mpr ⟨dk3_95, List.forall_mem_cons.mpr ⟨dk3_97, List.forall_mem_cons.mpr ⟨dk3_100, fun _ h => absurd h List.not_mem_nil⟩⟩⟩⟩⟩⟩⟩⟩⟩⟩⟩⟩⟩⟩⟩⟩⟩⟩⟩⟩⟩⟩⟩⟩⟩⟩⟩⟩⟩⟩⟩⟩⟩⟩⟩⟩⟩⟩⟩⟩⟩⟩⟩⟩⟩⟩⟩⟩⟩⟩⟩⟩⟩⟩⟩⟩⟩
theorem dk4_0 : decode prog_6_method_1_code 0 = .ok (.aload_n 0, 1) := by decide +kernel
theorem dk4_1 : decode prog_6_method_1_code 1 = .ok (.invokespecial 3, 3) := by decide +kernel
theorem dk4_4 : decode prog_6_method_1_code 4 = .ok (.aload_n 0, 1) := by decide +kernel
theorem dk4_5 : decode prog_6_method_1_code 5 = .ok (.new 9, 3) := by decide +kernel
theorem dk4_8 : decode prog_6_method_1_code 8 = .ok (.dup, 1) := by decide +kernel
theorem dk4_9 : decode prog_6_method_1_code 9 = .ok (.invokespecial 11, 3) := by decide +kernel
theorem dk4_12 : decode prog_6_method_1_code 12 = .ok (.putfield 12, 3) := by decide +kernel
theorem dk4_15 : decode prog_6_method_1_code 15 = .ok (.aload_n 0, 1) := by decide +kernel
theorem dk4_16 : decode prog_6_method_1_code 16 = .ok (.iconst (-1), 1) := by decide +kernel
theorem dk4_17 : decode prog_6_method_1_code 17 = .ok (.putfield 18, 3) := by decide +kernel
theorem dk4_20 : decode prog_6_method_1_code 20 = .ok (.aload_n 0, 1) := by decide +kernel
theorem dk4_21 : decode prog_6_method_1_code 21 = .ok (.bipush 72, 2) := by decide +kernel
theorem dk4_23 : decode prog_6_method_1_code 23 = .ok (.newarray .int, 2) := by decide +kernel
theorem dk4_25 : decode prog_6_method_1_code 25 = .ok (.putfield 22, 3) := by decide +kernel
theorem dk4_28 : decode prog_6_method_1_code 28 = .ok (.return_, 1) := by decide +kernel
def dk_4 : List (Nat × Instr × Nat) := [(0, .aload_n 0, 1), (1, .invokespecial 3, 3), (4, .aload_n 0, 1), (5, .new 9, 3), (8, .dup, 1), (9, .invokespecial 11, 3), (12, .putfield 12, 3), (15, .aload_n 0, 1), (16, .iconst (-1), 1), (17, .putfield 18, 3), (20, .aload_n 0, 1), (21, .bipush 72, 2), (23, .newarray .int, 2), (25, .putfield 22, 3), (28, .return_, 1)]
set_option maxRecDepth 20000 in
theorem dk_4_ok : ∀ r ∈ dk_4, decode prog_6_method_1_code r.1 = .ok r.2 := List.forall_mem_cons.mpr ⟨dk4_0, List.forall_mem_cons.mpr ⟨dk4_1, List.forall_mem_cons.mpr ⟨dk4_4, List.forall_mem_cons.mpr ⟨dk4_5, List.forall_mem_cons.mpr ⟨dk4_8, List.forall_mem_cons.mpr ⟨dk4_9, List.forall_mem_cons.mpr ⟨dk4_12, List.forall_mem_cons.mpr ⟨dk4_15, List.forall_mem_cons.mpr ⟨dk4_16, List.forall_mem_cons.mpr ⟨dk4_17, List.forall_mem_cons.mpr ⟨dk4_20, List.forall_mem_cons.mpr ⟨dk4_21, List.forall_mem_cons.mpr ⟨dk4_23, List.forall_mem_cons.mpr ⟨dk4_25, List.forall_mem_cons.mpr ⟨dk4_28, fun _ h => absurd h List.not_mem_nil⟩⟩⟩⟩⟩⟩⟩⟩⟩⟩⟩⟩⟩⟩⟩
theorem dk5_0 : decode prog_7_method_1_code 0 = .ok (.aload_n 0, 1) := by decide +kernel
theorem dk5_1 : decode prog_7_method_1_code 1 = .ok (.invokespecial 3, 3) := by decide +kernel
theorem dk5_4 : decode prog_7_method_1_code 4 = .ok (.aload_n 0, 1) := by decide +kernel
theorem dk5_5 : decode prog_7_method_1_code 5 = .ok (.iconst (-1), 1) := by decide +kernel
theorem dk5_6 : decode prog_7_method_1_code 6 = .ok (.putfield 9, 3) := by decide +kernel
theorem dk5_9 : decode prog_7_method_1_code 9 = .ok (.aload_n 0, 1) := by decide +kernel
theorem dk5_10 : decode prog_7_method_1_code 10 = .ok (.bipush 24, 2) := by decide +kernel
theorem dk5_12 : decode prog_7_method_1_code 12 = .ok (.newarray .int, 2) := by decide +kernel
theorem dk5_14 : decode prog_7_method_1_code 14 = .ok (.putfield 15, 3) := by decide +kernel
theorem dk5_17 : decode prog_7_method_1_code 17 = .ok (.aload_n 0, 1) := by decide +kernel
theorem dk5_18 : decode prog_7_method_1_code 18 = .ok (.bipush 24, 2) := by decide +kernel
theorem dk5_20 : decode prog_7_method_1_code 20 = .ok (.newarray .int, 2) := by decide +kernel
theorem dk5_22 : decode prog_7_method_1_code 22 = .ok (.putfield 19, 3) := by decide +kernel
theorem dk5_25 : decode prog_7_method_1_code 25 = .ok (.aload_n 0, 1) := by decide +kernel
theorem dk5_26 : decode prog_7_method_1_code 26 = .ok (.bipush 24, 2) := by decide +kernel
theorem dk5_28 : decode prog_7_method_1_code 28 = .ok (.newarray .int, 2) := by decide +kernel
theorem dk5_30 : decode prog_7_method_1_code 30 = .ok (.putfield 22, 3) := by decide +kernel
theorem dk5_33 : decode prog_7_method_1_code 33 = .ok (.aload_n 0, 1) := by decide +kernel
theorem dk5_34 : decode prog_7_method_1_code 34 = .ok (.bipush 24, 2) := by decide +kernel
theorem dk5_36 : decode prog_7_method_1_code 36 = .ok (.newarray .boolean, 2) := by decide +kernel
theorem dk5_38 : decode prog_7_method_1_code 38 = .ok (.putfield 25, 3) := by decide +kernel
theorem dk5_41 : decode prog_7_method_1_code 41 = .ok (.aload_n 0, 1) := by decide +kernel
theorem dk5_42 : decode prog_7_method_1_code 42 = .ok (.bipush 24, 2) := by decide +kernel
theorem dk5_44 : decode prog_7_method_1_code 44 = .ok (.newarray .int, 2) := by decide +kernel
theorem dk5_46 : decode prog_7_method_1_code 46 = .ok (.putfield 29, 3) := by decide +kernel
theorem dk5_49 : decode prog_7_method_1_code 49 = .ok (.aload_n 0, 1) := by decide +kernel
theorem dk5_50 : decode prog_7_method_1_code 50 = .ok (.bipush 24, 2) := by decide +kernel
theorem dk5_52 : decode prog_7_method_1_code 52 = .ok (.newarray .boolean, 2) := by decide +kernel
theorem dk5_54 : decode prog_7_method_1_code 54 = .ok (.putfield 32, 3) := by decide +kernel
theorem dk5_57 : decode prog_7_method_1_code 57 = .ok (.return_, 1) := by decide +kernel
def dk_5 : List (Nat × Instr × Nat) := [(0, .aload_n 0, 1), (1, .invokespecial 3, 3), (4, .aload_n 0, 1), (5, .iconst (-1), 1), (6, .putfield 9, 3), (9, .aload_n 0, 1), (10, .bipush 24, 2), (12, .newarray .int, 2), (14, .putfield 15, 3), (17, .aload_n 0, 1), (18, .bipush 24, 2), (20, .newarray .int, 2), (22, .putfield 19, 3), (25, .aload_n 0, 1), (26, .bipush 24, 2), (28, .newarray .int, 2), (30, .putfield 22, 3), (33, .aload_n 0, 1), (34, .bipush 24, 2), (36, .newarray .boolean, 2), (38, .putfield 25, 3), (41, .aload_n 0, 1), (42, .bipush 24, 2), (44, .newarray .int, 2), (46, .putfield 29, 3), (49, .aload_n 0, 1), (50, .bipush 24, 2), (52, .newarray .boolean, 2), (54, .putfield 32, 3), (57, .return_, 1)]
set_option maxRecDepth 20000 in
theorem dk_5_ok : ∀ r ∈ dk_5, decode prog_7_method_1_code r.1 = .ok r.2 := List.forall_mem_cons.mpr ⟨dk5_0, List.forall_mem_cons.mpr ⟨dk5_1, List.forall_mem_cons.mpr ⟨dk5_4, List.forall_mem_cons.mpr ⟨dk5_5, List.forall_mem_cons.mpr ⟨dk5_6, List.forall_mem_cons.mpr ⟨dk5_9, List.forall_mem_cons.mpr ⟨dk5_10, List.forall_mem_cons.mpr ⟨dk5_12, List.forall_mem_cons.mpr ⟨dk5_14, List.forall_mem_cons.mpr ⟨dk5_17, List.forall_mem_cons.mpr ⟨dk5_18, List.forall_mem_cons.mpr ⟨dk5_20, List.forall_mem_cons.mpr ⟨dk5_22, List.forall_mem_cons.mpr ⟨dk5_25, List.forall_mem_cons.mpr ⟨dk5_26, List.forall_mem_cons.mpr ⟨dk5_28, List.forall_mem_cons.mpr ⟨dk5_30, List.forall_mem_cons.mpr ⟨dk5_33, List.forall_mem_cons.mpr ⟨dk5_34, List.forall_mem_cons.mpr ⟨dk5_36, List.forall_mem_cons.mpr ⟨dk5_38, List.forall_mem_cons.mpr ⟨dk5_41, List.forall_mem_cons.mpr ⟨dk5_42, List.forall_mem_cons.mpr ⟨dk5_44, List.forall_mem_cons.mpr ⟨dk5_46, List.forall_mem_cons.mpr ⟨dk5_49, List.forall_mem_cons.mpr ⟨dk5_50, List.forall_mem_cons.mpr ⟨dk5_52, List.forall_mem_cons.mpr ⟨dk5_54, List.forall_mem_cons.mpr ⟨dk5_57, fun _ h => absurd h List.not_mem_nil⟩⟩⟩⟩⟩⟩⟩⟩⟩⟩⟩⟩⟩⟩⟩⟩⟩⟩⟩⟩⟩⟩⟩⟩⟩⟩⟩⟩⟩⟩
theorem dk6_0 : decode prog_8_method_1_code 0 = .ok (.aload_n 0, 1) := by decide +kernel
theorem dk6_1 : decode prog_8_method_1_code 1 = .ok (.invokespecial 3, 3) := by decide +kernel
theorem dk6_4 : decode prog_8_method_1_code 4 = .ok (.aload_n 0, 1) := by decide +kernel
theorem dk6_5 : decode prog_8_method_1_code 5 = .ok (.bipush 7, 2) := by decide +kernel
theorem dk6_7 : decode prog_8_method_1_code 7 = .ok (.newarray .long, 2) := by decide +kernel
theorem dk6_9 : decode prog_8_method_1_code 9 = .ok (.putfield 9, 3) := by decide +kernel
theorem dk6_12 : decode prog_8_method_1_code 12 = .ok (.aload_n 0, 1) := by decide +kernel
theorem dk6_13 : decode prog_8_method_1_code 13 = .ok (.bipush 64, 2) := by decide +kernel
theorem dk6_15 : decode prog_8_method_1_code 15 = .ok (.newarray .long, 2) := by decide +kernel
theorem dk6_17 : decode prog_8_method_1_code 17 = .ok (.putfield 15, 3) := by decide +kernel
theorem dk6_20 : decode prog_8_method_1_code 20 = .ok (.return_, 1) := by decide +kernel
def dk_6 : List (Nat × Instr × Nat) := [(0, .aload_n 0, 1), (1, .invokespecial 3, 3), (4, .aload_n 0, 1), (5, .bipush 7, 2), (7, .newarray .long, 2), (9, .putfield 9, 3), (12, .aload_n 0, 1), (13, .bipush 64, 2), (15, .newarray .long, 2), (17, .putfield 15, 3), (20, .return_, 1)]
set_option maxRecDepth 20000 in
theorem dk_6_ok : ∀ r ∈ dk_6, decode prog_8_method_1_code r.1 = .ok r.2 := List.forall_mem_cons.mpr ⟨dk6_0, List.forall_mem_cons.mpr ⟨dk6_1, List.forall_mem_cons.mpr ⟨dk6_4, List.forall_mem_cons.mpr ⟨dk6_5, List.forall_mem_cons.mpr ⟨dk6_7, List.forall_mem_cons.mpr ⟨dk6_9, List.forall_mem_cons.mpr ⟨dk6_12, List.forall_mem_cons.mpr ⟨dk6_13, List.forall_mem_cons.mpr ⟨dk6_15, List.forall_mem_cons.mpr ⟨dk6_17, List.forall_mem_cons.mpr ⟨dk6_20, fun _ h => absurd h List.not_mem_nil⟩⟩⟩⟩⟩⟩⟩⟩⟩⟩⟩
theorem dk7_0 : decode prog_9_method_1_code 0 = .ok (.aload_n 0, 1) := by decide +kernel
theorem dk7_1 : decode prog_9_method_1_code 1 = .ok (.invokespecial 3, 3) := by decide +kernel
theorem dk7_4 : decode prog_9_method_1_code 4 = .ok (.aload_n 0, 1) := by decide +kernel
theorem dk7_5 : decode prog_9_method_1_code 5 = .ok (.sipush 700, 3) := by decide +kernel
theorem dk7_8 : decode prog_9_method_1_code 8 = .ok (.newarray .byte, 2) := by decide +kernel
theorem dk7_10 : decode prog_9_method_1_code 10 = .ok (.putfield 9, 3) := by decide +kernel
theorem dk7_13 : decode prog_9_method_1_code 13 = .ok (.aload_n 0, 1) := by decide +kernel
theorem dk7_14 : decode prog_9_method_1_code 14 = .ok (.bipush 20, 2) := by decide +kernel
theorem dk7_16 : decode prog_9_method_1_code 16 = .ok (.newarray .int, 2) := by decide +kernel
theorem dk7_18 : decode prog_9_method_1_code 18 = .ok (.putfield 15, 3) := by decide +kernel
theorem dk7_21 : decode prog_9_method_1_code 21 = .ok (.iconst 0, 1) := by decide +kernel
theorem dk7_22 : decode prog_9_method_1_code 22 = .ok (.istore_n 1, 1) := by decide +kernel
theorem dk7_23 : decode prog_9_method_1_code 23 = .ok (.iconst 0, 1) := by decide +kernel
theorem dk7_24 : decode prog_9_method_1_code 24 = .ok (.istore_n 2, 1) := by decide +kernel
theorem dk7_25 : decode prog_9_method_1_code 25 = .ok (.iconst 0, 1) := by decide +kernel
theorem dk7_26 : decode prog_9_method_1_code 26 = .ok (.istore_n 3, 1) := by decide +kernel
theorem dk7_27 : decode prog_9_method_1_code 27 = .ok (.iload_n 3, 1) := by decide +kernel
theorem dk7_28 : decode prog_9_method_1_code 28 = .ok (.ldc 19, 2) := by decide +kernel
theorem dk7_30 : decode prog_9_method_1_code 30 = .ok (.invokevirtual 21, 3) := by decide +kernel
theorem dk7_33 : decode prog_9_method_1_code 33 = .ok (.if_icmp .ge 56, 3) := by decide +kernel
theorem dk7_36 : decode prog_9_method_1_code 36 = .ok (.iload_n 1, 1) := by decide +kernel
theorem dk7_37 : decode prog_9_method_1_code 37 = .ok (.bipush 20, 2) := by decide +kernel
theorem dk7_39 : decode prog_9_method_1_code 39 = .ok (.if_icmp .ge 50, 3) := by decide +kernel
theorem dk7_42 : decode prog_9_method_1_code 42 = .ok (.ldc 19, 2) := by decide +kernel
theorem dk7_44 : decode prog_9_method_1_code 44 = .ok (.iload_n 3, 1) := by decide +kernel
theorem dk7_45 : decode prog_9_method_1_code 45 = .ok (.invokevirtual 27, 3) := by decide +kernel
theorem dk7_48 : decode prog_9_method_1_code 48 = .ok (.istore 4, 2) := by decide +kernel
theorem dk7_50 : decode prog_9_method_1_code 50 = .ok (.iload 4, 2) := by decide +kernel
theorem dk7_52 : decode prog_9_method_1_code 52 = .ok (.bipush 32, 2) := by decide +kernel
theorem dk7_54 : decode prog_9_method_1_code 54 = .ok (.if_icmp .ne 11, 3) := by decide +kernel
theorem dk7_57 : decode prog_9_method_1_code 57 = .ok (.iinc 1 1, 3) := by decide +kernel
theorem dk7_60 : decode prog_9_method_1_code 60 = .ok (.iconst 0, 1) := by decide +kernel
theorem dk7_61 : decode prog_9_method_1_code 61 = .ok (.istore_n 2, 1) := by decide +kernel
theorem dk7_62 : decode prog_9_method_1_code 62 = .ok (.goto 21, 3) := by decide +kernel
theorem dk7_65 : decode prog_9_method_1_code 65 = .ok (.aload_n 0, 1) := by decide +kernel
theorem dk7_66 : decode prog_9_method_1_code 66 = .ok (.getfield 15, 3) := by decide +kernel
theorem dk7_69 : decode prog_9_method_1_code 69 = .ok (.iload_n 1, 1) := by decide +kernel
theorem dk7_70 : decode prog_9_method_1_code 70 = .ok (.dup2, 1) := by decide +kernel
theorem dk7_71 : decode prog_9_method_1_code 71 = .ok (.iaload, 1) := by decide +kernel
theorem dk7_72 : decode prog_9_method_1_code 72 = .ok (.iload 4, 2) := by decide +kernel
theorem dk7_74 : decode prog_9_method_1_code 74 = .ok (.iload_n 2, 1) := by decide +kernel
theorem dk7_75 : decode prog_9_method_1_code 75 = .ok (.invokestatic 31, 3) := by decide +kernel
theorem dk7_78 : decode prog_9_method_1_code 78 = .ok (.ior, 1) := by decide +kernel
theorem dk7_79 : decode prog_9_method_1_code 79 = .ok (.iastore, 1) := by decide +kernel
theorem dk7_80 : decode prog_9_method_1_code 80 = .ok (.iinc 2 1, 3) := by decide +kernel
theorem dk7_83 : decode prog_9_method_1_code 83 = .ok (.iinc 3 1, 3) := by decide +kernel
theorem dk7_86 : decode prog_9_method_1_code 86 = .ok (.goto (-59), 3) := by decide +kernel
theorem dk7_89 : decode prog_9_method_1_code 89 = .ok (.return_, 1) := by decide +kernel
def dk_7 : List (Nat × Instr × Nat) := [(0, .aload_n 0, 1), (1, .invokespecial 3, 3), (4, .aload_n 0, 1), (5, .sipush 700, 3), (8, .newarray .byte, 2), (10, .putfield 9, 3), (13, .aload_n 0, 1), (14, .bipush 20, 2), (16, .newarray .int, 2), (18, .putfield 15, 3), (21, .iconst 0, 1), (22, .istore_n 1, 1), (23, .iconst 0, 1), (24, .istore_n 2, 1), (25, .iconst 0, 1), (26, .istore_n 3, 1), (27, .iload_n 3, 1), (28, .ldc 19, 2), (30, .invokevirtual 21, 3), (33, .if_icmp .ge 56, 3), (36, .iload_n 1, 1), (37, .bipush 20, 2), (39, .if_icmp .ge 50, 3), (42, .ldc 19, 2), (44, .iload_n 3, 1), (45, .invokevirtual 27, 3), (48, .istore 4, 2), (50, .iload 4, 2), (52, .bipush 32, 2), (54, .if_icmp .ne 11, 3), (57, .iinc 1 1, 3), (60, .iconst 0, 1), (61, .istore_n 2, 1), (62, .goto 21, 3), (65, .aload_n 0, 1), (66, .getfield 15, 3), (69, .iload_n 1, 1), (70, .dup2, 1), (71, .iaload, 1), (72, .iload 4, 2), (74, .iload_n 2, 1), (75, .invokestatic 31, 3), (78, .ior, 1), (79, .iastore, 1), (80, .iinc 2 1, 3), (83, .iinc 3 1, 3), (86, .goto (-59), 3), (89, .return_, 1)]
set_option maxRecDepth 20000 in
theorem dk_7_ok : ∀ r ∈ dk_7, decode prog_9_method_1_code r.1 = .ok r.2 := List.forall_mem_cons.mpr ⟨dk7_0, List.forall_mem_cons.mpr ⟨dk7_1, List.forall_mem_cons.mpr ⟨dk7_4, List.forall_mem_cons.mpr ⟨dk7_5, List.forall_mem_cons.mpr ⟨dk7_8, List.forall_mem_cons.mpr ⟨dk7_10, List.forall_mem_cons.mpr ⟨dk7_13, List.forall_mem_cons.mpr ⟨dk7_14, List.forall_mem_cons.mpr ⟨dk7_16, List.forall_mem_cons.mpr ⟨dk7_18, List.forall_mem_cons.mpr ⟨dk7_21, List.forall_mem_cons.mpr ⟨dk7_22, List.forall_mem_cons.mpr ⟨dk7_23, List.forall_mem_cons.mpr ⟨dk7_24, List.forall_mem_cons.mpr ⟨dk7_25, List.forall_mem_cons.mpr ⟨dk7_26, List.forall_mem_cons.mpr ⟨dk7_27, List.forall_mem_cons.mpr ⟨dk7_28, List.forall_mem_cons.mpr ⟨dk7_30, List.forall_mem_cons.mpr ⟨dk7_33, List.forall_mem_cons.mpr ⟨dk7_36, List.forall_mem_cons.mpr ⟨dk7_37, List.forall_mem_cons.mpr ⟨dk7_39, List.forall_mem_cons.mpr ⟨dk7_42, List.forall_mem_cons.mpr ⟨dk7_44, List.forall_mem_cons.mpr ⟨dk7_45, List.forall_mem_cons.mpr ⟨dk7_48, List.forall_mem_cons.mpr ⟨dk7_50, List.forall_mem_cons.mpr ⟨dk7_52, List.forall_mem_cons.mpr ⟨dk7_54, List.forall_mem_cons.mpr ⟨dk7_57, List.forall_mem_cons.mpr ⟨dk7_60, List.forall_mem_cons.mpr ⟨dk7_61, List.forall_mem_cons.mpr ⟨dk7_62, List.forall_mem_cons.mpr ⟨dk7_65, List.forall_mem_cons.mpr ⟨dk7_66, List.forall_mem_cons.mpr ⟨dk7_69, List.forall_mem_cons.mpr ⟨dk7_70, List.forall_mem_cons.mpr ⟨dk7_71, List.forall_mem_cons.mpr ⟨dk7_72, List.forall_mem_cons.mpr ⟨dk7_74, List.forall_mem_cons.mpr ⟨dk7_75, List.forall_mem_cons.mpr ⟨dk7_78, List.forall_mem_cons.mpr ⟨dk7_79, List.forall_mem_cons.mpr ⟨dk7_80, List.forall_mem_cons.mpr ⟨dk7_83, List.forall_mem_cons.mpr ⟨dk7_86, List.forall_mem_cons.mpr ⟨dk7_89, fun _ h => absurd h List.not_mem_nil⟩⟩⟩⟩⟩⟩⟩⟩⟩⟩⟩⟩⟩⟩⟩⟩⟩⟩⟩⟩⟩⟩⟩⟩⟩⟩⟩⟩⟩⟩⟩⟩⟩⟩⟩⟩⟩⟩⟩⟩⟩⟩⟩⟩⟩⟩⟩⟩
theorem dk8_0 : decode prog_10_method_1_code 0 = .ok (.aload_n 0, 1) := by decide +kernel
theorem dk8_1 : decode prog_10_method_1_code 1 = .ok (.invokespecial 3, 3) := by decide +kernel
theorem dk8_4 : decode prog_10_method_1_code 4 = .ok (.aload_n 0, 1) := by decide +kernel
theorem dk8_5 : decode prog_10_method_1_code 5 = .ok (.bipush 6, 2) := by decide +kernel
theorem dk8_7 : decode prog_10_method_1_code 7 = .ok (.newarray .int, 2) := by decide +kernel
theorem dk8_9 : decode prog_10_method_1_code 9 = .ok (.putfield 9, 3) := by decide +kernel
theorem dk8_12 : decode prog_10_method_1_code 12 = .ok (.aload_n 0, 1) := by decide +kernel
theorem dk8_13 : decode prog_10_method_1_code 13 = .ok (.bipush 18, 2) := by decide +kernel
theorem dk8_15 : decode prog_10_method_1_code 15 = .ok (.newarray .int, 2) := by decide +kernel
theorem dk8_17 : decode prog_10_method_1_code 17 = .ok (.putfield 15, 3) := by decide +kernel
theorem dk8_20 : decode prog_10_method_1_code 20 = .ok (.aload_n 0, 1) := by decide +kernel
theorem dk8_21 : decode prog_10_method_1_code 21 = .ok (.bipush 6, 2) := by decide +kernel
theorem dk8_23 : decode prog_10_method_1_code 23 = .ok (.newarray .int, 2) := by decide +kernel
theorem dk8_25 : decode prog_10_method_1_code 25 = .ok (.dup, 1) := by decide +kernel
theorem dk8_26 : decode prog_10_method_1_code 26 = .ok (.iconst 0, 1) := by decide +kernel
theorem dk8_27 : decode prog_10_method_1_code 27 = .ok (.bipush (-2), 2) := by decide +kernel
theorem dk8_29 : decode prog_10_method_1_code 29 = .ok (.iastore, 1) := by decide +kernel
theorem dk8_30 : decode prog_10_method_1_code 30 = .ok (.dup, 1) := by decide +kernel
theorem dk8_31 : decode prog_10_method_1_code 31 = .ok (.iconst 1, 1) := by decide +kernel
theorem dk8_32 : decode prog_10_method_1_code 32 = .ok (.bipush (-2), 2) := by decide +kernel
theorem dk8_34 : decode prog_10_method_1_code 34 = .ok (.iastore, 1) := by decide +kernel
theorem dk8_35 : decode prog_10_method_1_code 35 = .ok (.dup, 1) := by decide +kernel
theorem dk8_36 : decode prog_10_method_1_code 36 = .ok (.iconst 2, 1) := by decide +kernel
theorem dk8_37 : decode prog_10_method_1_code 37 = .ok (.bipush (-2), 2) := by decide +kernel
theorem dk8_39 : decode prog_10_method_1_code 39 = .ok (.iastore, 1) := by decide +kernel
theorem dk8_40 : decode prog_10_method_1_code 40 = .ok (.dup, 1) := by decide +kernel
theorem dk8_41 : decode prog_10_method_1_code 41 = .ok (.iconst 3, 1) := by decide +kernel
theorem dk8_42 : decode prog_10_method_1_code 42 = .ok (.bipush (-2), 2) := by decide +kernel
theorem dk8_44 : decode prog_10_method_1_code 44 = .ok (.iastore, 1) := by decide +kernel
theorem dk8_45 : decode prog_10_method_1_code 45 = .ok (.dup, 1) := by decide +kernel
theorem dk8_46 : decode prog_10_method_1_code 46 = .ok (.iconst 4, 1) := by decide +kernel
theorem dk8_47 : decode prog_10_method_1_code 47 = .ok (.bipush (-2), 2) := by decide +kernel
theorem dk8_49 : decode prog_10_method_1_code 49 = .ok (.iastore, 1) := by decide +kernel
theorem dk8_50 : decode prog_10_method_1_code 50 = .ok (.dup, 1) := by decide +kernel
theorem dk8_51 : decode prog_10_method_1_code 51 = .ok (.iconst 5, 1) := by decide +kernel
theorem dk8_52 : decode prog_10_method_1_code 52 = .ok (.bipush (-2), 2) := by decide +kernel
theorem dk8_54 : decode prog_10_method_1_code 54 = .ok (.iastore, 1) := by decide +kernel
theorem dk8_55 : decode prog_10_method_1_code 55 = .ok (.putfield 18, 3) := by decide +kernel
theorem dk8_58 : decode prog_10_method_1_code 58 = .ok (.aload_n 0, 1) := by decide +kernel
theorem dk8_59 : decode prog_10_method_1_code 59 = .ok (.bipush 6, 2) := by decide +kernel
theorem dk8_61 : decode prog_10_method_1_code 61 = .ok (.newarray .int, 2) := by decide +kernel
theorem dk8_63 : decode prog_10_method_1_code 63 = .ok (.putfield 21, 3) := by decide +kernel
theorem dk8_66 : decode prog_10_method_1_code 66 = .ok (.aload_n 0, 1) := by decide +kernel
theorem dk8_67 : decode prog_10_method_1_code 67 = .ok (.bipush 6, 2) := by decide +kernel
theorem dk8_69 : decode prog_10_method_1_code 69 = .ok (.newarray .int, 2) := by decide +kernel
theorem dk8_71 : decode prog_10_method_1_code 71 = .ok (.putfield 24, 3) := by decide +kernel
theorem dk8_74 : decode prog_10_method_1_code 74 = .ok (.aload_n 0, 1) := by decide +kernel
theorem dk8_75 : decode prog_10_method_1_code 75 = .ok (.bipush 12, 2) := by decide +kernel
theorem dk8_77 : decode prog_10_method_1_code 77 = .ok (.newarray .int, 2) := by decide +kernel
theorem dk8_79 : decode prog_10_method_1_code 79 = .ok (.putfield 27, 3) := by decide +kernel
theorem dk8_82 : decode prog_10_method_1_code 82 = .ok (.aload_n 0, 1) := by decide +kernel
theorem dk8_83 : decode prog_10_method_1_code 83 = .ok (.bipush 12, 2) := by decide +kernel
theorem dk8_85 : decode prog_10_method_1_code 85 = .ok (.newarray .int, 2) := by decide +kernel
theorem dk8_87 : decode prog_10_method_1_code 87 = .ok (.putfield 30, 3) := by decide +kernel
theorem dk8_90 : decode prog_10_method_1_code 90 = .ok (.aload_n 0, 1) := by decide +kernel
theorem dk8_91 : decode prog_10_method_1_code 91 = .ok (.bipush 12, 2) := by decide +kernel
theorem dk8_93 : decode prog_10_method_1_code 93 = .ok (.newarray .int, 2) := by decide +kernel
theorem dk8_95 : decode prog_10_method_1_code 95 = .ok (.putfield 33, 3) := by decide +kernel
theorem dk8_98 : decode prog_10_method_1_code 98 = .ok (.aload_n 0, 1) := by decide +kernel
theorem dk8_99 : decode prog_10_method_1_code 99 = .ok (.bipush 36, 2) := by decide +kernel
theorem dk8_101 : decode prog_10_method_1_code 101 = .ok (.newarray .int, 2) := by decide +kernel
theorem dk8_103 : decode prog_10_method_1_code 103 = .ok (.putfield 36, 3) := by decide +kernel
theorem dk8_106 : decode prog_10_method_1_code 106 = .ok (.return_, 1) := by decide +kernel
def dk_8 : List (Nat × Instr × Nat) := [(0, .aload_n 0, 1), (1, .invokespecial 3, 3), (4, .aload_n 0, 1), (5, .bipush 6, 2), (7, .newarray .int, 2), (9, .putfield 9, 3), (12, .aload_n 0, 1), (13, .bipush 18, 2), (15, .newarray .int, 2), (17, .putfield 15, 3), (20, .aload_n 0, 1), (21, .bipush 6, 2), (23, .newarray .int, 2), (25, .dup, 1), (26, .iconst 0, 1), (27, .bipush (-2), 2), (29, .iastore, 1), (30, .dup, 1), (31, .iconst 1, 1), (32, .bipush (-2), 2), (34, .iastore, 1), (35, .dup, 1), (36, .iconst 2, 1), (37, .bipush (-2), 2), (39, .iastore, 1), (40, .dup, 1), (41, .iconst 3, 1), (42, .bipush (-2), 2), (44, .iastore, 1), (45, .dup, 1), (46, .iconst 4, 1), (47, .bipush (-2), 2), (49, .iastore, 1), (50, .dup, 1), (51, .iconst 5, 1), (52, .bipush (-2), 2), (54, .iastore, 1), (55, .putfield 18, 3), (58, .aload_n 0, 1), (59, .bipush 6, 2), (61, .newarray .int, 2), (63, .putfield 21, 3), (66, .aload_n 0, 1), (67, .bipush 6, 2), (69, .newarray .int, 2), (71, .putfield 24, 3), (74, .aload_n 0, 1), (75, .bipush 12, 2), (77, .newarray .int, 2), (79, .putfield 27, 3), (82, .aload_n 0, 1), (83, .bipush 12, 2), (85, .newarray .int, 2), (87, .putfield 30, 3), (90, .aload_n 0, 1), (91, .bipush 12, 2), (93, .newarray .int, 2), (95, .putfield 33, 3), (98, .aload_n 0, 1), (99, .bipush 36, 2), (101, .newarray .int, 2), (103, .putfield 36, 3), (106, .return_, 1)]
set_option maxRecDepth 20000 in
theorem dk_8_ok : ∀ r ∈ dk_8, decode prog_10_method_1_code r.1 = .ok r.2 := List.forall_mem_cons.mpr ⟨dk8_0, List.forall_mem_cons.mpr ⟨dk8_1, List.forall_mem_cons.mpr ⟨dk8_4, List.forall_mem_cons.mpr ⟨dk8_5, List.forall_mem_cons.mpr ⟨dk8_7, List.forall_mem_cons.mpr ⟨dk8_9, List.forall_mem_cons.mpr ⟨dk8_12, List.forall_mem_cons.mpr ⟨dk8_13, List.forall_mem_cons.mpr ⟨dk8_15, List.forall_mem_cons.mpr ⟨dk8_17, List.forall_mem_cons.mpr ⟨dk8_20, List.forall_mem_cons.mpr ⟨dk8_21, List.forall_mem_cons.mpr ⟨dk8_23, List.forall_mem_cons.mpr ⟨dk8_25, List.forall_mem_cons.mpr ⟨dk8_26, List.forall_mem_cons.mpr ⟨dk8_27, List.forall_mem_cons.mpr ⟨dk8_29, List.forall_mem_cons.mpr ⟨dk8_30, List.forall_mem_cons.mpr ⟨dk8_31, List.forall_mem_cons.mpr ⟨dk8_32, List.forall_mem_cons.mpr ⟨dk8_34, List.forall_mem_cons.mpr ⟨dk8_35, List.forall_mem_cons.mpr ⟨dk8_36, List.forall_mem_cons.mpr ⟨dk8_37, List.forall_mem_cons.mpr ⟨dk8_39, List.forall_mem_cons.mpr ⟨dk8_40, List.forall_mem_cons.mpr ⟨dk8_41, List.forall_mem_cons.mpr ⟨dk8_42, List.forall_mem_cons.mpr ⟨dk8_44, List.forall_mem_cons.mpr ⟨dk8_45, List.forall_mem_cons.mpr ⟨dk8_46, List.forall_mem_cons.mpr ⟨dk8_47, List.forall_mem_cons.mpr ⟨dk8_49, List.forall_mem_cons.mpr ⟨dk8_50, List.forall_mem_cons.mpr ⟨dk8_51, List.forall_mem_cons.mpr ⟨dk8_52, List.forall_mem_cons.mpr ⟨dk8_54, List.forall_mem_cons.mpr ⟨dk8_55, List.forall_mem_cons.mpr ⟨dk8_58, List.forall_mem_cons.mpr ⟨dk8_59, List.forall_mem_cons.mpr ⟨dk8_61, List.forall_mem_cons.mpr ⟨dk8_63, List.forall_mem_cons.mpr ⟨dk8_66, List.forall_mem_cons.mpr ⟨dk8_67, List.forall_mem_cons.mpr ⟨dk8_69, List.forall_mem_cons.mpr ⟨dk8_71, List.forall_mem_cons.mpr ⟨dk8_74, List.forall_mem_cons.mpr ⟨dk8_75, List.forall_mem_cons.mpr ⟨dk8_77, List.forall_mem_cons.mpr ⟨dk8_79, List.forall_mem_cons.mpr ⟨dk8_82, List.forall_mem_cons.mpr ⟨dk8_83, List.forall_mem_cons.mpr ⟨dk8_85, List.forall_mem_cons.mpr ⟨dk8_87, List.forall_mem_cons.mpr ⟨dk8_90, List.forall_mem_cons.mpr ⟨dk8_91, List.forall_mem_cons.mpr ⟨dk8_93, List.forall_mem_cons.mpr ⟨dk8_95, List.forall_mem_cons.mpr ⟨dk8_98, List.forall_mem_cons.mpr ⟨dk8_99, List.forall_mem_cons.mpr ⟨dk8_101, List.forall_mem_cons.mpr ⟨dk8_103, List.forall_mem_cons.mpr ⟨dk8_106, fun _ h => absurd h List.not_mem_nil⟩⟩⟩⟩⟩⟩⟩⟩⟩⟩⟩⟩⟩⟩⟩⟩⟩⟩⟩⟩⟩⟩⟩⟩⟩⟩⟩⟩⟩⟩⟩⟩⟩⟩⟩⟩⟩⟩⟩⟩⟩⟩⟩⟩⟩⟩⟩⟩⟩⟩⟩⟩⟩⟩⟩⟩⟩⟩⟩⟩⟩⟩⟩
theorem dk9_0 : decode prog_1_method_1_code 0 = .ok (.aload_n 0, 1) := by decide +kernel
theorem dk9_1 : decode prog_1_method_1_code 1 = .ok (.invokespecial 3, 3) := by decide +kernel
theorem dk9_4 : decode prog_1_method_1_code 4 = .ok (.aload_n 0, 1) := by decide +kernel
theorem dk9_5 : decode prog_1_method_1_code 5 = .ok (.new 9, 3) := by decide +kernel
theorem dk9_8 : decode prog_1_method_1_code 8 = .ok (.dup, 1) := by decide +kernel
theorem dk9_9 : decode prog_1_method_1_code 9 = .ok (.invokespecial 11, 3) := by decide +kernel
theorem dk9_12 : decode prog_1_method_1_code 12 = .ok (.putfield 12, 3) := by decide +kernel
theorem dk9_15 : decode prog_1_method_1_code 15 = .ok (.aload_n 0, 1) := by decide +kernel
theorem dk9_16 : decode prog_1_method_1_code 16 = .ok (.new 18, 3) := by decide +kernel
theorem dk9_19 : decode prog_1_method_1_code 19 = .ok (.dup, 1) := by decide +kernel
theorem dk9_20 : decode prog_1_method_1_code 20 = .ok (.invokespecial 20, 3) := by decide +kernel
theorem dk9_23 : decode prog_1_method_1_code 23 = .ok (.putfield 21, 3) := by decide +kernel
theorem dk9_26 : decode prog_1_method_1_code 26 = .ok (.aload_n 0, 1) := by decide +kernel
theorem dk9_27 : decode prog_1_method_1_code 27 = .ok (.new 18, 3) := by decide +kernel
theorem dk9_30 : decode prog_1_method_1_code 30 = .ok (.dup, 1) := by decide +kernel
theorem dk9_31 : decode prog_1_method_1_code 31 = .ok (.invokespecial 20, 3) := by decide +kernel
theorem dk9_34 : decode prog_1_method_1_code 34 = .ok (.putfield 25, 3) := by decide +kernel
theorem dk9_37 : decode prog_1_method_1_code 37 = .ok (.aload_n 0, 1) := by decide +kernel
theorem dk9_38 : decode prog_1_method_1_code 38 = .ok (.new 28, 3) := by decide +kernel
theorem dk9_41 : decode prog_1_method_1_code 41 = .ok (.dup, 1) := by decide +kernel
theorem dk9_42 : decode prog_1_method_1_code 42 = .ok (.invokespecial 30, 3) := by decide +kernel
theorem dk9_45 : decode prog_1_method_1_code 45 = .ok (.putfield 31, 3) := by decide +kernel
theorem dk9_48 : decode prog_1_method_1_code 48 = .ok (.aload_n 0, 1) := by decide +kernel
theorem dk9_49 : decode prog_1_method_1_code 49 = .ok (.new 28, 3) := by decide +kernel
theorem dk9_52 : decode prog_1_method_1_code 52 = .ok (.dup, 1) := by decide +kernel
theorem dk9_53 : decode prog_1_method_1_code 53 = .ok (.invokespecial 30, 3) := by decide +kernel
theorem dk9_56 : decode prog_1_method_1_code 56 = .ok (.putfield 35, 3) := by decide +kernel
theorem dk9_59 : decode prog_1_method_1_code 59 = .ok (.aload_n 0, 1) := by decide +kernel
theorem dk9_60 : decode prog_1_method_1_code 60 = .ok (.new 28, 3) := by decide +kernel
theorem dk9_63 : decode prog_1_method_1_code 63 = .ok (.dup, 1) := by decide +kernel
theorem dk9_64 : decode prog_1_method_1_code 64 = .ok (.invokespecial 30, 3) := by decide +kernel
theorem dk9_67 : decode prog_1_method_1_code 67 = .ok (.putfield 38, 3) := by decide +kernel
theorem dk9_70 : decode prog_1_method_1_code 70 = .ok (.aload_n 0, 1) := by decide +kernel
theorem dk9_71 : decode prog_1_method_1_code 71 = .ok (.new 41, 3) := by decide +kernel
theorem dk9_74 : decode prog_1_method_1_code 74 = .ok (.dup, 1) := by decide +kernel
theorem dk9_75 : decode prog_1_method_1_code 75 = .ok (.invokespecial 43, 3) := by decide +kernel
theorem dk9_78 : decode prog_1_method_1_code 78 = .ok (.putfield 44, 3) := by decide +kernel
theorem dk9_81 : decode prog_1_method_1_code 81 = .ok (.aload_n 0, 1) := by decide +kernel
theorem dk9_82 : decode prog_1_method_1_code 82 = .ok (.new 48, 3) := by decide +kernel
theorem dk9_85 : decode prog_1_method_1_code 85 = .ok (.dup, 1) := by decide +kernel
theorem dk9_86 : decode prog_1_method_1_code 86 = .ok (.invokespecial 50, 3) := by decide +kernel
theorem dk9_89 : decode prog_1_method_1_code 89 = .ok (.putfield 51, 3) := by decide +kernel
theorem dk9_92 : decode prog_1_method_1_code 92 = .ok (.aload_n 0, 1) := by decide +kernel
theorem dk9_93 : decode prog_1_method_1_code 93 = .ok (.new 55, 3) := by decide +kernel
theorem dk9_96 : decode prog_1_method_1_code 96 = .ok (.dup, 1) := by decide +kernel
theorem dk9_97 : decode prog_1_method_1_code 97 = .ok (.invokespecial 57, 3) := by decide +kernel
theorem dk9_100 : decode prog_1_method_1_code 100 = .ok (.putfield 58, 3) := by decide +kernel
theorem dk9_103 : decode prog_1_method_1_code 103 = .ok (.aload_n 0, 1) := by decide +kernel
theorem dk9_104 : decode prog_1_method_1_code 104 = .ok (.new 62, 3) := by decide +kernel
theorem dk9_107 : decode prog_1_method_1_code 107 = .ok (.dup, 1) := by decide +kernel
theorem dk9_108 : decode prog_1_method_1_code 108 = .ok (.invokespecial 64, 3) := by decide +kernel
theorem dk9_111 : decode prog_1_method_1_code 111 = .ok (.putfield 65, 3) := by decide +kernel
theorem dk9_114 : decode prog_1_method_1_code 114 = .ok (.aload_n 0, 1) := by decide +kernel
theorem dk9_115 : decode prog_1_method_1_code 115 = .ok (.bipush 11, 2) := by decide +kernel
theorem dk9_117 : decode prog_1_method_1_code 117 = .ok (.newarray .int, 2) := by decide +kernel
theorem dk9_119 : decode prog_1_method_1_code 119 = .ok (.putfield 69, 3) := by decide +kernel
theorem dk9_122 : decode prog_1_method_1_code 122 = .ok (.return_, 1) := by decide +kernel
def dk_9 : List (Nat × Instr × Nat) := [(0, .aload_n 0, 1), (1, .invokespecial 3, 3), (4, .aload_n 0, 1), (5, .new 9, 3), (8, .dup, 1), (9, .invokespecial 11, 3), (12, .putfield 12, 3), (15, .aload_n 0, 1), (16, .new 18, 3), (19, .dup, 1), (20, .invokespecial 20, 3), (23, .putfield 21, 3), (26, .aload_n 0, 1), (27, .new 18, 3), (30, .dup, 1), (31, .invokespecial 20, 3), (34, .putfield 25, 3), (37, .aload_n 0, 1), (38, .new 28, 3), (41, .dup, 1), (42, .invokespecial 30, 3), (45, .putfield 31, 3), (48, .aload_n 0, 1), (49, .new 28, 3), (52, .dup, 1), (53, .invokespecial 30, 3), (56, .putfield 35, 3), (59, .aload_n 0, 1), (60, .new 28, 3), (63, .dup, 1), (64, .invokespecial 30, 3), (67, .putfield 38, 3), (70, .aload_n 0, 1), (71, .new 41, 3), (74, .dup, 1), (75, .invokespecial 43, 3), (78, .putfield 44, 3), (81, .aload_n 0, 1), (82, .new 48, 3), (85, .dup, 1), (86, .invokespecial 50, 3), (89, .putfield 51, 3), (92, .aload_n 0, 1), (93, .new 55, 3), (96, .dup, 1), (97, .invokespecial 57, 3), (100, .putfield 58, 3), (103, .aload_n 0, 1), (104, .new 62, 3), (107, .dup, 1), (108, .invokespecial 64, 3), (111, .putfield 65, 3), (114, .aload_n 0, 1), (115, .bipush 11, 2), (117, .newarray .int, 2), (119, .putfield 69, 3), (122, .return_, 1)]
set_option maxRecDepth 20000 in
theorem dk_9_ok : ∀ r ∈ dk_9, decode prog_1_method_1_code r.1 = .ok r.2 := List.forall_mem_cons.mpr ⟨dk9_0, List.forall_mem_cons.mpr ⟨dk9_1, List.forall_mem_cons.mpr ⟨dk9_4, List.forall_mem_cons.mpr ⟨dk9_5, List.forall_mem_cons.mpr ⟨dk9_8, List.forall_mem_cons.mpr ⟨dk9_9, List.forall_mem_cons.mpr ⟨dk9_12, List.forall_mem_cons.mpr ⟨dk9_15, List.forall_mem_cons.mpr ⟨dk9_16, List.forall_mem_cons.mpr ⟨dk9_19, List.forall_mem_cons.mpr ⟨dk9_20, List.forall_mem_cons.mpr ⟨dk9_23, List.forall_mem_cons.mpr ⟨dk9_26, List.forall_mem_cons.mpr ⟨dk9_27, List.forall_mem_cons.mpr ⟨dk9_30, List.forall_mem_cons.mpr ⟨dk9_31, List.forall_mem_cons.mpr ⟨dk9_34, List.forall_mem_cons.mpr ⟨dk9_37, List.forall_mem_cons.mpr ⟨dk9_38, List.forall_mem_cons.mpr ⟨dk9_41, List.forall_mem_cons.mpr ⟨dk9_42, List.forall_mem_cons.mpr ⟨dk9_45, List.forall_mem_cons.mpr ⟨dk9_48, List.forall_mem_cons.mpr ⟨dk9_49, List.forall_mem_cons.mpr ⟨dk9_52, List.forall_mem_cons.mpr ⟨dk9_53, List.forall_mem_cons.mpr ⟨dk9_56, List.forall_mem_cons.mpr ⟨dk9_59, List.forall_mem_cons.mpr ⟨dk9_60, List.forall_mem_cons.mpr ⟨dk9_63, List.forall_mem_cons.mpr ⟨dk9_64, List.forall_mem_cons.mpr ⟨dk9_67, List.forall_mem_cons.mpr ⟨dk9_70, List.forall_mem_cons.mpr ⟨dk9_71, List.forall_mem_cons.mpr ⟨dk9_74, List.forall_mem_cons.mpr ⟨dk9_75, List.forall_mem_cons.mpr ⟨dk9_78, List.forall_mem_cons.mpr ⟨dk9_81, List.forall_mem_cons.mpr ⟨dk9_82, List.forall_mem_cons.mpr ⟨dk9_85, List.forall_mem_cons.mpr ⟨dk9_86, List.forall_mem_cons.mpr ⟨dk9_89, List.forall_mem_cons.mpr ⟨dk9_92, List.forall_mem_cons.mpr ⟨dk9_93, List.forall_mem_cons.mpr ⟨dk9_96, List.forall_mem_cons.mpr ⟨dk9_97, List.forall_mem_cons.mpr ⟨dk9_100, List.forall_mem_cons.mpr ⟨dk9_103, List.forall_mem_cons.mpr ⟨dk9_104, List.forall_mem_cons.mpr ⟨dk9_107, List.forall_mem_cons.mpr ⟨dk9_108, List.forall_mem_cons.mpr ⟨dk9_111, List.forall_mem_cons.mpr ⟨dk9_114, List.forall_mem_cons.mpr ⟨dk9_115, List.forall_mem_cons.mpr ⟨dk9_117, List.forall_mem_cons.mpr ⟨dk9_119, List.forall_mem_cons.mpr ⟨dk9_122, fun _ h => absurd h List.not_mem_nil⟩⟩⟩⟩⟩⟩⟩⟩⟩⟩⟩⟩⟩⟩⟩⟩⟩⟩⟩⟩⟩⟩⟩⟩⟩⟩⟩⟩⟩⟩⟩⟩⟩⟩⟩⟩⟩⟩⟩⟩⟩⟩⟩⟩⟩⟩⟩⟩⟩⟩⟩⟩⟩⟩⟩⟩⟩
theorem dk10_0 : decode prog_12_method_1_code 0 = .ok (.aload_n 0, 1) := by decide +kernel
theorem dk10_1 : decode prog_12_method_1_code 1 = .ok (.invokespecial 1, 3) := by decide +kernel
theorem dk10_4 : decode prog_12_method_1_code 4 = .ok (.aload_n 0, 1) := by decide +kernel
theorem dk10_5 : decode prog_12_method_1_code 5 = .ok (.sipush 700, 3) := by decide +kernel
theorem dk10_8 : decode prog_12_method_1_code 8 = .ok (.newarray .int, 2) := by decide +kernel
theorem dk10_10 : decode prog_12_method_1_code 10 = .ok (.putfield 7, 3) := by decide +kernel
theorem dk10_13 : decode prog_12_method_1_code 13 = .ok (.aload_n 0, 1) := by decide +kernel
theorem dk10_14 : decode prog_12_method_1_code 14 = .ok (.bipush 14, 2) := by decide +kernel
theorem dk10_16 : decode prog_12_method_1_code 16 = .ok (.newarray .int, 2) := by decide +kernel
theorem dk10_18 : decode prog_12_method_1_code 18 = .ok (.dup, 1) := by decide +kernel
theorem dk10_19 : decode prog_12_method_1_code 19 = .ok (.iconst 0, 1) := by decide +kernel
theorem dk10_20 : decode prog_12_method_1_code 20 = .ok (.iconst 0, 1) := by decide +kernel
theorem dk10_21 : decode prog_12_method_1_code 21 = .ok (.iastore, 1) := by decide +kernel
theorem dk10_22 : decode prog_12_method_1_code 22 = .ok (.dup, 1) := by decide +kernel
theorem dk10_23 : decode prog_12_method_1_code 23 = .ok (.iconst 1, 1) := by decide +kernel
theorem dk10_24 : decode prog_12_method_1_code 24 = .ok (.iconst 0, 1) := by decide +kernel
theorem dk10_25 : decode prog_12_method_1_code 25 = .ok (.iastore, 1) := by decide +kernel
theorem dk10_26 : decode prog_12_method_1_code 26 = .ok (.dup, 1) := by decide +kernel
theorem dk10_27 : decode prog_12_method_1_code 27 = .ok (.iconst 2, 1) := by decide +kernel
theorem dk10_28 : decode prog_12_method_1_code 28 = .ok (.iconst 0, 1) := by decide +kernel
theorem dk10_29 : decode prog_12_method_1_code 29 = .ok (.iastore, 1) := by decide +kernel
theorem dk10_30 : decode prog_12_method_1_code 30 = .ok (.dup, 1) := by decide +kernel
theorem dk10_31 : decode prog_12_method_1_code 31 = .ok (.iconst 3, 1) := by decide +kernel
theorem dk10_32 : decode prog_12_method_1_code 32 = .ok (.bipush 20, 2) := by decide +kernel
theorem dk10_34 : decode prog_12_method_1_code 34 = .ok (.iastore, 1) := by decide +kernel
theorem dk10_35 : decode prog_12_method_1_code 35 = .ok (.dup, 1) := by decide +kernel
theorem dk10_36 : decode prog_12_method_1_code 36 = .ok (.iconst 4, 1) := by decide +kernel
theorem dk10_37 : decode prog_12_method_1_code 37 = .ok (.iconst 0, 1) := by decide +kernel
theorem dk10_38 : decode prog_12_method_1_code 38 = .ok (.iastore, 1) := by decide +kernel
theorem dk10_39 : decode prog_12_method_1_code 39 = .ok (.dup, 1) := by decide +kernel
theorem dk10_40 : decode prog_12_method_1_code 40 = .ok (.iconst 5, 1) := by decide +kernel
theorem dk10_41 : decode prog_12_method_1_code 41 = .ok (.iconst 0, 1) := by decide +kernel
theorem dk10_42 : decode prog_12_method_1_code 42 = .ok (.iastore, 1) := by decide +kernel
theorem dk10_43 : decode prog_12_method_1_code 43 = .ok (.dup, 1) := by decide +kernel
theorem dk10_44 : decode prog_12_method_1_code 44 = .ok (.bipush 6, 2) := by decide +kernel
theorem dk10_46 : decode prog_12_method_1_code 46 = .ok (.iconst 0, 1) := by decide +kernel
theorem dk10_47 : decode prog_12_method_1_code 47 = .ok (.iastore, 1) := by decide +kernel
theorem dk10_48 : decode prog_12_method_1_code 48 = .ok (.dup, 1) := by decide +kernel
theorem dk10_49 : decode prog_12_method_1_code 49 = .ok (.bipush 7, 2) := by decide +kernel
theorem dk10_51 : decode prog_12_method_1_code 51 = .ok (.iconst 0, 1) := by decide +kernel
theorem dk10_52 : decode prog_12_method_1_code 52 = .ok (.iastore, 1) := by decide +kernel
theorem dk10_53 : decode prog_12_method_1_code 53 = .ok (.dup, 1) := by decide +kernel
theorem dk10_54 : decode prog_12_method_1_code 54 = .ok (.bipush 8, 2) := by decide +kernel
theorem dk10_56 : decode prog_12_method_1_code 56 = .ok (.iconst 0, 1) := by decide +kernel
theorem dk10_57 : decode prog_12_method_1_code 57 = .ok (.iastore, 1) := by decide +kernel
theorem dk10_58 : decode prog_12_method_1_code 58 = .ok (.dup, 1) := by decide +kernel
theorem dk10_59 : decode prog_12_method_1_code 59 = .ok (.bipush 9, 2) := by decide +kernel
theorem dk10_61 : decode prog_12_method_1_code 61 = .ok (.iconst 0, 1) := by decide +kernel
theorem dk10_62 : decode prog_12_method_1_code 62 = .ok (.iastore, 1) := by decide +kernel
theorem dk10_63 : decode prog_12_method_1_code 63 = .ok (.dup, 1) := by decide +kernel
theorem dk10_64 : decode prog_12_method_1_code 64 = .ok (.bipush 10, 2) := by decide +kernel
theorem dk10_66 : decode prog_12_method_1_code 66 = .ok (.bipush 20, 2) := by decide +kernel
theorem dk10_68 : decode prog_12_method_1_code 68 = .ok (.iastore, 1) := by decide +kernel
theorem dk10_69 : decode prog_12_method_1_code 69 = .ok (.dup, 1) := by decide +kernel
theorem dk10_70 : decode prog_12_method_1_code 70 = .ok (.bipush 11, 2) := by decide +kernel
theorem dk10_72 : decode prog_12_method_1_code 72 = .ok (.iconst 0, 1) := by decide +kernel
theorem dk10_73 : decode prog_12_method_1_code 73 = .ok (.iastore, 1) := by decide +kernel
theorem dk10_74 : decode prog_12_method_1_code 74 = .ok (.dup, 1) := by decide +kernel
theorem dk10_75 : decode prog_12_method_1_code 75 = .ok (.bipush 12, 2) := by decide +kernel
theorem dk10_77 : decode prog_12_method_1_code 77 = .ok (.iconst 0, 1) := by decide +kernel
theorem dk10_78 : decode prog_12_method_1_code 78 = .ok (.iastore, 1) := by decide +kernel
theorem dk10_79 : decode prog_12_method_1_code 79 = .ok (.dup, 1) := by decide +kernel
theorem dk10_80 : decode prog_12_method_1_code 80 = .ok (.bipush 13, 2) := by decide +kernel
theorem dk10_82 : decode prog_12_method_1_code 82 = .ok (.iconst 0, 1) := by decide +kernel
theorem dk10_83 : decode prog_12_method_1_code 83 = .ok (.iastore, 1) := by decide +kernel
theorem dk10_84 : decode prog_12_method_1_code 84 = .ok (.putfield 13, 3) := by decide +kernel
theorem dk10_87 : decode prog_12_method_1_code 87 = .ok (.aload_n 0, 1) := by decide +kernel
theorem dk10_88 : decode prog_12_method_1_code 88 = .ok (.bipush 12, 2) := by decide +kernel
theorem dk10_90 : decode prog_12_method_1_code 90 = .ok (.newarray .int, 2) := by decide +kernel
theorem dk10_92 : decode prog_12_method_1_code 92 = .ok (.putfield 16, 3) := by decide +kernel
theorem dk10_95 : decode prog_12_method_1_code 95 = .ok (.aload_n 0, 1) := by decide +kernel
theorem dk10_96 : decode prog_12_method_1_code 96 = .ok (.bipush 36, 2) := by decide +kernel
theorem dk10_98 : decode prog_12_method_1_code 98 = .ok (.newarray .int, 2) := by decide +kernel
theorem dk10_100 : decode prog_12_method_1_code 100 = .ok (.putfield 19, 3) := by decide +kernel
theorem dk10_103 : decode prog_12_method_1_code 103 = .ok (.aload_n 0, 1) := by decide +kernel
theorem dk10_104 : decode prog_12_method_1_code 104 = .ok (.bipush 12, 2) := by decide +kernel
theorem dk10_106 : decode prog_12_method_1_code 106 = .ok (.newarray .int, 2) := by decide +kernel
theorem dk10_108 : decode prog_12_method_1_code 108 = .ok (.putfield 22, 3) := by decide +kernel
theorem dk10_111 : decode prog_12_method_1_code 111 = .ok (.aload_n 0, 1) := by decide +kernel
theorem dk10_112 : decode prog_12_method_1_code 112 = .ok (.bipush 20, 2) := by decide +kernel
theorem dk10_114 : decode prog_12_method_1_code 114 = .ok (.newarray .int, 2) := by decide +kernel
theorem dk10_116 : decode prog_12_method_1_code 116 = .ok (.putfield 25, 3) := by decide +kernel
theorem dk10_119 : decode prog_12_method_1_code 119 = .ok (.aload_n 0, 1) := by decide +kernel
theorem dk10_120 : decode prog_12_method_1_code 120 = .ok (.bipush 20, 2) := by decide +kernel
theorem dk10_122 : decode prog_12_method_1_code 122 = .ok (.newarray .int, 2) := by decide +kernel
theorem dk10_124 : decode prog_12_method_1_code 124 = .ok (.putfield 28, 3) := by decide +kernel
theorem dk10_127 : decode prog_12_method_1_code 127 = .ok (.aload_n 0, 1) := by decide +kernel
theorem dk10_128 : decode prog_12_method_1_code 128 = .ok (.bipush 20, 2) := by decide +kernel
theorem dk10_130 : decode prog_12_method_1_code 130 = .ok (.newarray .int, 2) := by decide +kernel
theorem dk10_132 : decode prog_12_method_1_code 132 = .ok (.putfield 31, 3) := by decide +kernel
theorem dk10_135 : decode prog_12_method_1_code 135 = .ok (.aload_n 0, 1) := by decide +kernel
theorem dk10_136 : decode prog_12_method_1_code 136 = .ok (.bipush 20, 2) := by decide +kernel
theorem dk10_138 : decode prog_12_method_1_code 138 = .ok (.newarray .int, 2) := by decide +kernel
theorem dk10_140 : decode prog_12_method_1_code 140 = .ok (.putfield 34, 3) := by decide +kernel
theorem dk10_143 : decode prog_12_method_1_code 143 = .ok (.aload_n 0, 1) := by decide +kernel
theorem dk10_144 : decode prog_12_method_1_code 144 = .ok (.bipush 20, 2) := by decide +kernel
theorem dk10_146 : decode prog_12_method_1_code 146 = .ok (.newarray .int, 2) := by decide +kernel
theorem dk10_148 : decode prog_12_method_1_code 148 = .ok (.putfield 37, 3) := by decide +kernel
theorem dk10_151 : decode prog_12_method_1_code 151 = .ok (.aload_n 0, 1) := by decide +kernel
theorem dk10_152 : decode prog_12_method_1_code 152 = .ok (.bipush 24, 2) := by decide +kernel
theorem dk10_154 : decode prog_12_method_1_code 154 = .ok (.newarray .int, 2) := by decide +kernel
theorem dk10_156 : decode prog_12_method_1_code 156 = .ok (.putfield 40, 3) := by decide +kernel
theorem dk10_159 : decode prog_12_method_1_code 159 = .ok (.aload_n 0, 1) := by decide +kernel
theorem dk10_160 : decode prog_12_method_1_code 160 = .ok (.bipush 24, 2) := by decide +kernel
theorem dk10_162 : decode prog_12_method_1_code 162 = .ok (.newarray .int, 2) := by decide +kernel
theorem dk10_164 : decode prog_12_method_1_code 164 = .ok (.putfield 43, 3) := by decide +kernel
theorem dk10_167 : decode prog_12_method_1_code 167 = .ok (.aload_n 0, 1) := by decide +kernel
theorem dk10_168 : decode prog_12_method_1_code 168 = .ok (.bipush 24, 2) := by decide +kernel
theorem dk10_170 : decode prog_12_method_1_code 170 = .ok (.newarray .int, 2) := by decide +kernel
theorem dk10_172 : decode prog_12_method_1_code 172 = .ok (.putfield 46, 3) := by decide +kernel
theorem dk10_175 : decode prog_12_method_1_code 175 = .ok (.aload_n 0, 1) := by decide +kernel
theorem dk10_176 : decode prog_12_method_1_code 176 = .ok (.bipush 6, 2) := by decide +kernel
theorem dk10_178 : decode prog_12_method_1_code 178 = .ok (.newarray .int, 2) := by decide +kernel
theorem dk10_180 : decode prog_12_method_1_code 180 = .ok (.putfield 49, 3) := by decide +kernel
theorem dk10_183 : decode prog_12_method_1_code 183 = .ok (.aload_n 0, 1) := by decide +kernel
theorem dk10_184 : decode prog_12_method_1_code 184 = .ok (.bipush 6, 2) := by decide +kernel
theorem dk10_186 : decode prog_12_method_1_code 186 = .ok (.newarray .int, 2) := by decide +kernel
theorem dk10_188 : decode prog_12_method_1_code 188 = .ok (.putfield 52, 3) := by decide +kernel
theorem dk10_191 : decode prog_12_method_1_code 191 = .ok (.aload_n 0, 1) := by decide +kernel
theorem dk10_192 : decode prog_12_method_1_code 192 = .ok (.sipush 128, 3) := by decide +kernel
theorem dk10_195 : decode prog_12_method_1_code 195 = .ok (.newarray .int, 2) := by decide +kernel
theorem dk10_197 : decode prog_12_method_1_code 197 = .ok (.putfield 55, 3) := by decide +kernel
theorem dk10_200 : decode prog_12_method_1_code 200 = .ok (.aload_n 0, 1) := by decide +kernel
theorem dk10_201 : decode prog_12_method_1_code 201 = .ok (.sipush 128, 3) := by decide +kernel
theorem dk10_204 : decode prog_12_method_1_code 204 = .ok (.newarray .int, 2) := by decide +kernel
theorem dk10_206 : decode prog_12_method_1_code 206 = .ok (.putfield 58, 3) := by decide +kernel
theorem dk10_209 : decode prog_12_method_1_code 209 = .ok (.aload_n 0, 1) := by decide +kernel
theorem dk10_210 : decode prog_12_method_1_code 210 = .ok (.iconst (-1), 1) := by decide +kernel
theorem dk10_211 : decode prog_12_method_1_code 211 = .ok (.putfield 61, 3) := by decide +kernel
theorem dk10_214 : decode prog_12_method_1_code 214 = .ok (.aload_n 0, 1) := by decide +kernel
theorem dk10_215 : decode prog_12_method_1_code 215 = .ok (.bipush 7, 2) := by decide +kernel
theorem dk10_217 : decode prog_12_method_1_code 217 = .ok (.newarray .long, 2) := by decide +kernel
theorem dk10_219 : decode prog_12_method_1_code 219 = .ok (.putfield 65, 3) := by decide +kernel
theorem dk10_222 : decode prog_12_method_1_code 222 = .ok (.aload_n 0, 1) := by decide +kernel
theorem dk10_223 : decode prog_12_method_1_code 223 = .ok (.bipush 64, 2) := by decide +kernel
theorem dk10_225 : decode prog_12_method_1_code 225 = .ok (.newarray .long, 2) := by decide +kernel
theorem dk10_227 : decode prog_12_method_1_code 227 = .ok (.putfield 69, 3) := by decide +kernel
theorem dk10_230 : decode prog_12_method_1_code 230 = .ok (.aload_n 0, 1) := by decide +kernel
theorem dk10_231 : decode prog_12_method_1_code 231 = .ok (.bipush 23, 2) := by decide +kernel
theorem dk10_233 : decode prog_12_method_1_code 233 = .ok (.newarray .int, 2) := by decide +kernel
theorem dk10_235 : decode prog_12_method_1_code 235 = .ok (.putfield 72, 3) := by decide +kernel
theorem dk10_238 : decode prog_12_method_1_code 238 = .ok (.aload_n 0, 1) := by decide +kernel
theorem dk10_239 : decode prog_12_method_1_code 239 = .ok (.bipush 23, 2) := by decide +kernel
theorem dk10_241 : decode prog_12_method_1_code 241 = .ok (.newarray .int, 2) := by decide +kernel
theorem dk10_243 : decode prog_12_method_1_code 243 = .ok (.putfield 75, 3) := by decide +kernel
theorem dk10_246 : decode prog_12_method_1_code 246 = .ok (.aload_n 0, 1) := by decide +kernel
theorem dk10_247 : decode prog_12_method_1_code 247 = .ok (.bipush 23, 2) := by decide +kernel
theorem dk10_249 : decode prog_12_method_1_code 249 = .ok (.newarray .int, 2) := by decide +kernel
theorem dk10_251 : decode prog_12_method_1_code 251 = .ok (.putfield 78, 3) := by decide +kernel
theorem dk10_254 : decode prog_12_method_1_code 254 = .ok (.aload_n 0, 1) := by decide +kernel
theorem dk10_255 : decode prog_12_method_1_code 255 = .ok (.bipush 23, 2) := by decide +kernel
theorem dk10_257 : decode prog_12_method_1_code 257 = .ok (.newarray .int, 2) := by decide +kernel
theorem dk10_259 : decode prog_12_method_1_code 259 = .ok (.putfield 81, 3) := by decide +kernel
theorem dk10_262 : decode prog_12_method_1_code 262 = .ok (.aload_n 0, 1) := by decide +kernel
theorem dk10_263 : decode prog_12_method_1_code 263 = .ok (.bipush 23, 2) := by decide +kernel
theorem dk10_265 : decode prog_12_method_1_code 265 = .ok (.newarray .int, 2) := by decide +kernel
theorem dk10_267 : decode prog_12_method_1_code 267 = .ok (.putfield 84, 3) := by decide +kernel
theorem dk10_270 : decode prog_12_method_1_code 270 = .ok (.aload_n 0, 1) := by decide +kernel
theorem dk10_271 : decode prog_12_method_1_code 271 = .ok (.sipush 414, 3) := by decide +kernel
theorem dk10_274 : decode prog_12_method_1_code 274 = .ok (.newarray .int, 2) := by decide +kernel
theorem dk10_276 : decode prog_12_method_1_code 276 = .ok (.putfield 87, 3) := by decide +kernel
theorem dk10_279 : decode prog_12_method_1_code 279 = .ok (.aload_n 0, 1) := by decide +kernel
theorem dk10_280 : decode prog_12_method_1_code 280 = .ok (.sipush 138, 3) := by decide +kernel
theorem dk10_283 : decode prog_12_method_1_code 283 = .ok (.newarray .int, 2) := by decide +kernel
theorem dk10_285 : decode prog_12_method_1_code 285 = .ok (.putfield 90, 3) := by decide +kernel
theorem dk10_288 : decode prog_12_method_1_code 288 = .ok (.aload_n 0, 1) := by decide +kernel
theorem dk10_289 : decode prog_12_method_1_code 289 = .ok (.sipush 138, 3) := by decide +kernel
theorem dk10_292 : decode prog_12_method_1_code 292 = .ok (.newarray .int, 2) := by decide +kernel
theorem dk10_294 : decode prog_12_method_1_code 294 = .ok (.putfield 93, 3) := by decide +kernel
theorem dk10_297 : decode prog_12_method_1_code 297 = .ok (.aload_n 0, 1) := by decide +kernel
theorem dk10_298 : decode prog_12_method_1_code 298 = .ok (.sipush 138, 3) := by decide +kernel
theorem dk10_301 : decode prog_12_method_1_code 301 = .ok (.newarray .int, 2) := by decide +kernel
theorem dk10_303 : decode prog_12_method_1_code 303 = .ok (.putfield 96, 3) := by decide +kernel
theorem dk10_306 : decode prog_12_method_1_code 306 = .ok (.aload_n 0, 1) := by decide +kernel
theorem dk10_307 : decode prog_12_method_1_code 307 = .ok (.sipush 138, 3) := by decide +kernel
theorem dk10_310 : decode prog_12_method_1_code 310 = .ok (.newarray .int, 2) := by decide +kernel
theorem dk10_312 : decode prog_12_method_1_code 312 = .ok (.putfield 99, 3) := by decide +kernel
theorem dk10_315 : decode prog_12_method_1_code 315 = .ok (.aload_n 0, 1) := by decide +kernel
theorem dk10_316 : decode prog_12_method_1_code 316 = .ok (.sipush 276, 3) := by decide +kernel
theorem dk10_319 : decode prog_12_method_1_code 319 = .ok (.newarray .int, 2) := by decide +kernel
theorem dk10_321 : decode prog_12_method_1_code 321 = .ok (.putfield 102, 3) := by decide +kernel
theorem dk10_324 : decode prog_12_method_1_code 324 = .ok (.aload_n 0, 1) := by decide +kernel
theorem dk10_325 : decode prog_12_method_1_code 325 = .ok (.sipush 828, 3) := by decide +kernel
theorem dk10_328 : decode prog_12_method_1_code 328 = .ok (.newarray .int, 2) := by decide +kernel
theorem dk10_330 : decode prog_12_method_1_code 330 = .ok (.putfield 105, 3) := by decide +kernel
theorem dk10_333 : decode prog_12_method_1_code 333 = .ok (.aload_n 0, 1) := by decide +kernel
theorem dk10_334 : decode prog_12_method_1_code 334 = .ok (.iconst (-1), 1) := by decide +kernel
theorem dk10_335 : decode prog_12_method_1_code 335 = .ok (.putfield 108, 3) := by decide +kernel
theorem dk10_338 : decode prog_12_method_1_code 338 = .ok (.aload_n 0, 1) := by decide +kernel
theorem dk10_339 : decode prog_12_method_1_code 339 = .ok (.iconst (-1), 1) := by decide +kernel
theorem dk10_340 : decode prog_12_method_1_code 340 = .ok (.putfield 111, 3) := by decide +kernel
theorem dk10_343 : decode prog_12_method_1_code 343 = .ok (.aload_n 0, 1) := by decide +kernel
theorem dk10_344 : decode prog_12_method_1_code 344 = .ok (.bipush 6, 2) := by decide +kernel
theorem dk10_346 : decode prog_12_method_1_code 346 = .ok (.newarray .int, 2) := by decide +kernel
theorem dk10_348 : decode prog_12_method_1_code 348 = .ok (.putfield 114, 3) := by decide +kernel
theorem dk10_351 : decode prog_12_method_1_code 351 = .ok (.aload_n 0, 1) := by decide +kernel
theorem dk10_352 : decode prog_12_method_1_code 352 = .ok (.bipush 6, 2) := by decide +kernel
theorem dk10_354 : decode prog_12_method_1_code 354 = .ok (.newarray .int, 2) := by decide +kernel
theorem dk10_356 : decode prog_12_method_1_code 356 = .ok (.putfield 117, 3) := by decide +kernel
theorem dk10_359 : decode prog_12_method_1_code 359 = .ok (.aload_n 0, 1) := by decide +kernel
theorem dk10_360 : decode prog_12_method_1_code 360 = .ok (.bipush 12, 2) := by decide +kernel
theorem dk10_362 : decode prog_12_method_1_code 362 = .ok (.newarray .int, 2) := by decide +kernel
theorem dk10_364 : decode prog_12_method_1_code 364 = .ok (.putfield 120, 3) := by decide +kernel
theorem dk10_367 : decode prog_12_method_1_code 367 = .ok (.aload_n 0, 1) := by decide +kernel
theorem dk10_368 : decode prog_12_method_1_code 368 = .ok (.iconst (-1), 1) := by decide +kernel
theorem dk10_369 : decode prog_12_method_1_code 369 = .ok (.putfield 123, 3) := by decide +kernel
theorem dk10_372 : decode prog_12_method_1_code 372 = .ok (.aload_n 0, 1) := by decide +kernel
theorem dk10_373 : decode prog_12_method_1_code 373 = .ok (.bipush 24, 2) := by decide +kernel
theorem dk10_375 : decode prog_12_method_1_code 375 = .ok (.newarray .int, 2) := by decide +kernel
theorem dk10_377 : decode prog_12_method_1_code 377 = .ok (.putfield 126, 3) := by decide +kernel
theorem dk10_380 : decode prog_12_method_1_code 380 = .ok (.aload_n 0, 1) := by decide +kernel
theorem dk10_381 : decode prog_12_method_1_code 381 = .ok (.bipush 24, 2) := by decide +kernel
theorem dk10_383 : decode prog_12_method_1_code 383 = .ok (.newarray .int, 2) := by decide +kernel
theorem dk10_385 : decode prog_12_method_1_code 385 = .ok (.putfield 129, 3) := by decide +kernel
theorem dk10_388 : decode prog_12_method_1_code 388 = .ok (.aload_n 0, 1) := by decide +kernel
theorem dk10_389 : decode prog_12_method_1_code 389 = .ok (.bipush 24, 2) := by decide +kernel
theorem dk10_391 : decode prog_12_method_1_code 391 = .ok (.newarray .int, 2) := by decide +kernel
theorem dk10_393 : decode prog_12_method_1_code 393 = .ok (.putfield 132, 3) := by decide +kernel
theorem dk10_396 : decode prog_12_method_1_code 396 = .ok (.aload_n 0, 1) := by decide +kernel
theorem dk10_397 : decode prog_12_method_1_code 397 = .ok (.bipush 24, 2) := by decide +kernel
theorem dk10_399 : decode prog_12_method_1_code 399 = .ok (.newarray .boolean, 2) := by decide +kernel
theorem dk10_401 : decode prog_12_method_1_code 401 = .ok (.putfield 135, 3) := by decide +kernel
theorem dk10_404 : decode prog_12_method_1_code 404 = .ok (.aload_n 0, 1) := by decide +kernel
theorem dk10_405 : decode prog_12_method_1_code 405 = .ok (.bipush 24, 2) := by decide +kernel
theorem dk10_407 : decode prog_12_method_1_code 407 = .ok (.newarray .int, 2) := by decide +kernel
theorem dk10_409 : decode prog_12_method_1_code 409 = .ok (.putfield 139, 3) := by decide +kernel
theorem dk10_412 : decode prog_12_method_1_code 412 = .ok (.aload_n 0, 1) := by decide +kernel
theorem dk10_413 : decode prog_12_method_1_code 413 = .ok (.bipush 24, 2) := by decide +kernel
theorem dk10_415 : decode prog_12_method_1_code 415 = .ok (.newarray .boolean, 2) := by decide +kernel
theorem dk10_417 : decode prog_12_method_1_code 417 = .ok (.putfield 142, 3) := by decide +kernel
theorem dk10_420 : decode prog_12_method_1_code 420 = .ok (.aload_n 0, 1) := by decide +kernel
theorem dk10_421 : decode prog_12_method_1_code 421 = .ok (.bipush 11, 2) := by decide +kernel
theorem dk10_423 : decode prog_12_method_1_code 423 = .ok (.newarray .int, 2) := by decide +kernel
theorem dk10_425 : decode prog_12_method_1_code 425 = .ok (.putfield 145, 3) := by decide +kernel
theorem dk10_428 : decode prog_12_method_1_code 428 = .ok (.aload_n 0, 1) := by decide +kernel
theorem dk10_429 : decode prog_12_method_1_code 429 = .ok (.invokevirtual 148, 3) := by decide +kernel
theorem dk10_432 : decode prog_12_method_1_code 432 = .ok (.return_, 1) := by decide +kernel
def dk_10 : List (Nat × Instr × Nat) := [(0, .aload_n 0, 1), (1, .invokespecial 1, 3), (4, .aload_n 0, 1), (5, .sipush 700, 3), (8, .newarray .int, 2), (10, .putfield 7, 3), (13, .aload_n 0, 1), (14, .bipush 14, 2), (16, .newarray .int, 2), (18, .dup, 1), (19, .iconst 0, 1), (20, .iconst 0, 1), (21, .iastore, 1), (22, .dup, 1), (23, .iconst 1, 1), (24, .iconst 0, 1), (25, .iastore, 1), (26, .dup, 1), (27, .iconst 2, 1), (28, .iconst 0, 1), (29, .iastore, 1), (30, .dup, 1), (31, .iconst 3, 1), (32, .bipush 20, 2), (34, .iastore, 1), (35, .dup, 1), (36, .iconst 4, 1), (37, .iconst 0, 1), (38, .iastore, 1), (39, .dup, 1), (40, .iconst 5, 1), (41, .iconst 0, 1), (42, .iastore, 1), (43, .dup, 1), (44, .bipush 6, 2), (46, .iconst 0, 1), (47, .iastore, 1), (48, .dup, 1), (49, .bipush 7, 2), (51, .iconst 0, 1), (52, .iastore, 1), (53, .dup, 1), (54, .bipush 8, 2), (56, .iconst 0, 1), (57, .iastore, 1), (58, .dup, 1), (59, .bipush 9, 2), (61, .iconst 0, 1), (62, .iastore, 1), (63, .dup, 1), (64, .bipush 10, 2), (66, .bipush 20, 2), (68, .iastore, 1), (69, .dup, 1), (70, .bipush 11, 2), (72, .iconst 0, 1), (73, .iastore, 1), (74, .dup, 1), (75, .bipush 12, 2), (77, .iconst 0, 1), (78, .iastore, 1), (79, .dup, 1), (80, .bipush 13, 2), (82, .iconst 0, 1), (83, .iastore, 1), (84, .putfield 13, 3), (87, .aload_n 0, 1), (88, .bipush 12, 2), (90, .newarray .int, 2), (92, .putfield 16, 3), (95, .aload_n 0, 1), (96, .bipush 36, 2), (98, .newarray .int, 2), (100, .putfield 19, 3), (103, .aload_n 0, 1), (104, .bipush 12, 2), (106, .newarray .int, 2), (108, .putfield 22, 3), (111, .aload_n 0, 1), (112, .bipush 20, 2), (114, .newarray .int, 2), (116, .putfield 25, 3), (119, .aload_n 0, 1), (120, .bipush 20, 2), (122, .newarray .int, 2), (124, .putfield 28, 3), (127, .aload_n 0, 1), (128, .bipush 20, 2), (130, .newarray .int, 2), (132, .putfield 31, 3), (135, .aload_n 0, 1), (136, .bipush 20, 2), (138, .newarray .int, 2), (140, .putfield 34, 3), (143, .aload_n 0, 1), (144, .bipush 20, 2), (146, .newarray .int, 2), (148, .putfield 37, 3), (151, .aload_n 0, 1), (152, .bipush 24, 2), (154, .newarray .int, 2), (156, .putfield 40, 3), (159, .aload_n 0, 1), (160, .bipush 24, 2), (162, .newarray .int, 2), (164, .putfield 43, 3), (167, .aload_n 0, 1), (168, .bipush 24, 2), (170, .newarray .int, 2), (172, .putfield 46, 3), (175, .aload_n 0, 1), (176, .bipush 6, 2), (178, .newarray .int, 2), (180, .putfield 49, 3), (183, .aload_n 0, 1), (184, .bipush 6, 2), (186, .newarray .int, 2), (188, .putfield 52, 3), (191, .aload_n 0, 1), (192, .sipush 128, 3), (195, .newarray .int, 2), (197, .putfield 55, 3), (200, .aload_n 0, 1), (201, .sipush 128, 3), (204, .newarray .int, 2), (206, .putfield 58, 3), (209, .aload_n 0, 1), (210, .iconst (-1), 1), (211, .putfield 61, 3), (214, .aload_n 0, 1), (215, .bipush 7, 2), (217, .newarray .long, 2), (219, .putfield 65, 3), (222, .aload_n 0, 1), (223, .bipush 64, 2), (225, .newarray .long, 2), (227, .putfield 69, 3), (230, .aload_n 0, 1), (231, .bipush 23, 2), (233, .newarray .int, 2), (235, .putfield 72, 3), (238, .aload_n 0, 1), (239, .bipush 23, 2), (241, .newarray .int, 2), (243, .putfield 75, 3), (246, .aload_n 0, 1), (247, .bipush 23, 2), (249, .newarray .int, 2), (251, .putfield 78, 3), (254, .aload_n 0, 1), (255, .bipush 23, 2), (257, .newarray .int, 2), (259, .putfield 81, 3), (262, .aload_n 0, 1), (263, .bipush 23, 2), (265, .newarray .int, 2), (267, .putfield 84, 3), (270, .aload_n 0, 1), (271, .sipush 414, 3), (274, .newarray .int, 2), (276, .putfield 87, 3), (279, .aload_n 0, 1), (280, .sipush 138, 3), (283, .newarray .int, 2), (285, .putfield 90, 3), (288, .aload_n 0, 1), (289, .sipush 138, 3), (292, .newarray .int, 2), (294, .putfield 93, 3), (297, .aload_n 0, 1), (298, .sipush 138, 3), (301, .newarray .int, 2), (303, .putfield 96, 3), (306, .aload_n 0, 1), (307, .sipush 138, 3), (310, .newarray .int, 2), (312, .putfield 99, 3), (315, .aload_n 0, 1), (316, .sipush 276, 3), (319, .newarray .int, 2), (321, .putfield 102, 3), (324, .aload_n 0, 1), (325, .sipush 828, 3), (328, .newarray .int, 2), (330, .putfield 105, 3), (333, .aload_n 0, 1), (334, .iconst (-1), 1), (335, .putfield 108, 3), (338, .aload_n 0, 1), (339, .iconst (-1), 1), (340, .putfield 111, 3), (343, .aload_n 0, 1), (344, .bipush 6, 2), (346, .newarray .int, 2), (348, .putfield 114, 3), (351, .aload_n 0, 1), (352, .bipush 6, 2), (354, .newarray .int, 2), (356, .putfield 117, 3), (359, .aload_n 0, 1), (360, .bipush 12, 2), (362, .newarray .int, 2), (364, .putfield 120, 3), (367, .aload_n 0, 1), (368, .iconst (-1), 1), (369, .putfield 123, 3), (372, .aload_n 0, 1), (373, .bipush 24, 2), (375, .newarray .int, 2), (377, .putfield 126, 3), (380, .aload_n 0, 1), (381, .bipush 24, 2), (383, .newarray .int, 2), (385, .putfield 129, 3), (388, .aload_n 0, 1), (389, .bipush 24, 2), (391, .newarray .int, 2), (393, .putfield 132, 3), (396, .aload_n 0, 1), (397, .bipush 24, 2), (399, .newarray .boolean, 2), (401, .putfield 135, 3), (404, .aload_n 0, 1), (405, .bipush 24, 2), (407, .newarray .int, 2), (409, .putfield 139, 3), (412, .aload_n 0, 1), (413, .bipush 24, 2), (415, .newarray .boolean, 2), (417, .putfield 142, 3), (420, .aload_n 0, 1), (421, .bipush 11, 2), (423, .newarray .int, 2), (425, .putfield 145, 3), (428, .aload_n 0, 1), (429, .invokevirtual 148, 3), (432, .return_, 1)]
set_option maxRecDepth 20000 in
theorem dk_10_ok : ∀ r ∈ dk_10, decode prog_12_method_1_code r.1 = .ok r.2 := List.forall_mem_cons.mpr ⟨dk10_0, List.forall_mem_cons.mpr ⟨dk10_1, List.forall_mem_cons.mpr ⟨dk10_4, List.forall_mem_cons.mpr ⟨dk10_5, List.forall_mem_cons.mpr ⟨dk10_8, List.forall_mem_cons.mpr ⟨dk10_10, List.forall_mem_cons.mpr ⟨dk10_13, List.forall_mem_cons.mpr ⟨dk10_14, List.forall_mem_cons.mpr ⟨dk10_16, List.forall_mem_cons.mpr ⟨dk10_18, List.forall_mem_cons.mpr ⟨dk10_19, List.forall_mem_cons.mpr ⟨dk10_20, List.forall_mem_cons.mpr ⟨dk10_21, List.forall_mem_cons.mpr ⟨dk10_22, List.forall_mem_cons.mpr ⟨dk10_23, List.forall_mem_cons.mpr ⟨dk10_24, List.forall_mem_cons.mpr ⟨dk10_25, List.forall_mem_cons.mpr ⟨dk10_26, List.forall_mem_cons.mpr ⟨dk10_27, List.forall_mem_cons.mpr ⟨dk10_28, List.forall_mem_cons.mpr ⟨dk10_29, List.forall_mem_cons.mpr ⟨dk10_30, List.forall_mem_cons.mpr ⟨dk10_31, List.forall_mem_cons.mpr ⟨dk10_32, List.forall_mem_cons.mpr ⟨dk10_34, List.forall_mem_cons.mpr ⟨dk10_35, List.forall_mem_cons.mpr ⟨dk10_36, List.forall_mem_cons.mpr ⟨dk10_37, List.forall_mem_cons.mpr ⟨dk10_38, List.forall_mem_cons.mpr ⟨dk10_39, List.forall_mem_cons.mpr ⟨dk10_40, List.forall_mem_cons.mpr ⟨dk10_41, List.forall_mem_cons.mpr ⟨dk10_42, List.forall_mem_cons.mpr ⟨dk10_43, List.forall_mem_cons.mpr ⟨dk10_44, List.forall_mem_cons.mpr ⟨dk10_46, List.forall_mem_cons.mpr ⟨dk10_47, List.forall_mem_cons.mpr ⟨dk10_48, List.forall_mem_cons.mpr ⟨dk10_49, List.forall_mem_cons.mpr ⟨dk10_51, List.forall_mem_cons.mpr ⟨dk10_52, List.forall_mem_cons.mpr ⟨dk10_53, List.forall_mem_cons.mpr ⟨dk10_54, List.forall_mem_cons.mpr ⟨dk10_56, List.forall_mem_cons.mpr ⟨dk10_57, List.forall_mem_cons.mpr ⟨dk10_58, List.forall_mem_cons.mpr ⟨dk10_59, List.forall_mem_cons.mpr ⟨dk10_61, List.forall_mem_cons.mpr ⟨dk10_62, List.forall_mem_cons.mpr ⟨dk10_63, List.forall_mem_cons.mpr ⟨dk10_64, List.forall_mem_cons.mpr ⟨dk10_66, List.forall_mem_cons.mpr ⟨dk10_68, List.forall_mem_cons.mpr ⟨dk10_69, List.forall_mem_cons.mpr ⟨dk10_70, List.forall_mem_cons.mpr ⟨dk10_72, List.forall_mem_cons.mpr ⟨dk10_73, List.forall_mem_cons.mpr ⟨dk10_74, List.forall_mem_cons.mpr ⟨dk10_75, List.forall_mem_cons.mpr ⟨dk10_77, List.forall_mem_cons.mpr ⟨dk10_78, List.forall_mem_cons.mpr ⟨dk10_79, List.forall_mem_cons.mpr ⟨dk10_80, List.forall_mem_cons.mpr ⟨dk10_82, List.forall_mem_cons.mpr ⟨dk10_83, List.forall_mem_cons.mpr ⟨dk10_84, List.forall_mem_cons.mpr ⟨dk10_87, List.forall_mem_cons.mpr ⟨dk10_88, List.forall_mem_cons.mpr ⟨dk10_90, List.forall_mem_cons.mpr ⟨dk10_92, List.forall_mem_cons.mpr ⟨dk10_95, List.forall_mem_cons.mpr ⟨dk10_96, List.forall_mem_cons.mpr ⟨dk10_98, List.forall_mem_cons.mpr ⟨dk10_100, List.forall_mem_cons.mpr ⟨dk10_103, List.forall_mem_cons.mpr ⟨dk10_104, List.forall_mem_cons.mpr ⟨dk10_106, List.forall_mem_cons.mpr ⟨dk10_108, List.forall_mem_cons.mpr ⟨dk10_111, List.forall_mem_cons.mpr ⟨dk10_112, List.forall_mem_cons.mpr ⟨dk10_114, List.forall_mem_cons.mpr ⟨dk10_116, List.forall_mem_cons.mpr ⟨dk10_119, List.forall_mem_cons.mpr ⟨dk10_120, List.forall_mem_cons.mpr ⟨dk10_122, List.forall_mem_cons.mpr ⟨dk10_124, List.forall_mem_cons.mpr ⟨dk10_127, List.forall_mem_cons.mpr ⟨dk10_128, List.forall_mem_cons.mpr ⟨dk10_130, List.forall_mem_cons.mpr ⟨dk10_132, List.forall_mem_cons.mpr ⟨dk10_135, List.forall_mem_cons.mpr ⟨dk10_136, List.forall_mem_cons.mpr ⟨dk10_138, List.forall_mem_cons.mpr ⟨dk10_140, List.forall_mem_cons.mpr ⟨dk10_143, List.forall_mem_cons.mpr ⟨dk10_144, List.forall_mem_cons.mpr ⟨dk10_146, List.forall_mem_cons.mpr ⟨dk10_148, List.forall_mem_cons.mpr ⟨dk10_151, List.forall_mem_cons.mpr ⟨dk10_152, List.forall_mem_cons.mpr ⟨dk10_154, List.forall_mem_cons.mpr ⟨dk10_156, List.forall_mem_cons.mpr ⟨dk10_159, List.forall_mem_cons.mpr ⟨dk10_160, List.forall_mem_cons.mpr ⟨dk10_162, List.forall_mem_cons.mpr ⟨dk10_164, List.forall_mem_cons.mpr ⟨dk10_167, List.forall_mem_cons.mpr ⟨dk10_168, List.forall_mem_cons.mpr ⟨dk10_170, List.forall_mem_cons.mpr ⟨dk10_172, List.forall_mem_cons.mpr ⟨dk10_175, List.forall_mem_cons.mpr ⟨dk10_176, List.forall_mem_cons.mpr ⟨dk10_178, List.forall_mem_cons.mpr ⟨dk10_180, List.forall_mem_cons.mpr ⟨dk10_183, List.forall_mem_cons.mpr ⟨dk10_184, List.forall_mem_cons.mpr ⟨dk10_186, List.forall_mem_cons.mpr ⟨dk10_188, List.forall_mem_cons.mpr ⟨dk10_191, List.forall_mem_cons.mpr ⟨dk10_192, List.forall_mem_cons.mpr ⟨dk10_195, List.forall_mem_cons.mpr ⟨dk10_197, List.forall_mem_cons.mpr ⟨dk10_200, List.forall_mem_cons.mpr ⟨dk10_201, List.forall_mem_cons.mpr ⟨dk10_204, List.forall_mem_cons.mpr ⟨dk10_206, List.forall_mem_cons.mpr ⟨dk10_209, List.forall_mem_cons.mpr ⟨dk10_210, List.forall_mem_cons.mpr ⟨dk10_211, List.forall_mem_cons.mpr ⟨dk10_214, List.forall_mem_cons.mpr ⟨dk10_215, List.forall_mem_cons.mpr ⟨dk10_217, List.forall_mem_cons.mpr ⟨dk10_219, List.forall_mem_cons.mpr ⟨dk10_222, List.forall_mem_cons.mpr ⟨dk10_223, List.forall_mem_cons.mpr ⟨dk10_225, List.forall_mem_cons.mpr ⟨dk10_227, List.forall_mem_cons.mpr ⟨dk10_230, List.forall_mem_cons.mpr ⟨dk10_231, List.forall_mem_cons.mpr ⟨dk10_233, List.forall_mem_cons.mpr ⟨dk10_235, List.forall_mem_cons.mpr ⟨dk10_238, List.forall_mem_cons.mpr ⟨dk10_239, List.forall_mem_cons.mpr ⟨dk10_241, List.forall_mem_cons.mpr ⟨dk10_243, List.forall_mem_cons.mpr ⟨dk10_246, List.forall_mem_cons.mpr ⟨dk10_247, List.forall_mem_cons.mpr ⟨dk10_249, List.forall_mem_cons.mpr ⟨dk10_251, List.forall_mem_cons.mpr ⟨dk10_254, List.forall_mem_cons.mpr ⟨dk10_255, List.forall_mem_cons.mpr ⟨dk10_257, List.forall_mem_cons.mpr ⟨dk10_259, List.forall_mem_cons.mpr ⟨dk10_262, List.forall_mem_cons.mpr ⟨dk10_263, List.forall_mem_cons.mpr ⟨dk10_265, List.forall_mem_cons.mpr ⟨dk10_267, List.forall_mem_cons.mpr ⟨dk10_270, List.forall_mem_cons.mpr ⟨dk10_271, List.forall_mem_cons.mpr ⟨dk10_274, List.forall_mem_cons.mpr ⟨dk10_276, List.forall_mem_cons.mpr ⟨dk10_279, List.forall_mem_cons.mpr ⟨dk10_280, List.forall_mem_cons.mpr ⟨dk10_283, List.forall_mem_cons.mpr ⟨dk10_285, List.forall_mem_cons.mpr ⟨dk10_288, List.forall_mem_cons.mpr ⟨dk10_289, List.forall_mem_cons.mpr ⟨dk10_292, List.forall_mem_cons.mpr ⟨dk10_294, List.forall_mem_cons.mpr ⟨dk10_297, List.forall_mem_cons.mpr ⟨dk10_298, List.forall_mem_cons.mpr ⟨dk10_301, List.forall_mem_cons.mpr ⟨dk10_303, List.forall_mem_cons.mpr ⟨dk10_306, List.forall_mem_cons.mpr ⟨dk10_307, List.forall_mem_cons.mpr ⟨dk10_310, List.forall_mem_cons.mpr ⟨dk10_312, List.forall_mem_cons.mpr ⟨dk10_315, List.forall_mem_cons.mpr ⟨dk10_316, List.forall_mem_cons.mpr ⟨dk10_319, List.forall_mem_cons.mpr ⟨dk10_321, List.forall_mem_cons.mpr ⟨dk10_324, List.forall_mem_cons.mpr ⟨dk10_325, List.forall_mem_cons.mpr ⟨dk10_328, List.forall_mem_cons.mpr ⟨dk10_330, List.forall_mem_cons.mpr ⟨dk10_333, List.forall_mem_cons.mpr ⟨dk10_334, List.forall_mem_cons.mpr ⟨dk10_335, List.forall_mem_cons.mpr ⟨dk10_338, List.forall_mem_cons.mpr ⟨dk10_339, List.forall_mem_cons.mpr ⟨dk10_340, List.forall_mem_cons.mpr ⟨dk10_343, List.forall_mem_cons.mpr ⟨dk10_344, List.forall_mem_cons.mpr ⟨dk10_346, List.forall_mem_cons.mpr ⟨dk10_348, List.forall_mem_cons.mpr ⟨dk10_351, List.forall_mem_cons.mpr ⟨dk10_352, List.forall_mem_cons.mpr ⟨dk10_354, List.forall_mem_cons.mpr ⟨dk10_356, List.forall_mem_cons.mpr ⟨dk10_359, List.forall_mem_cons.mpr ⟨dk10_360, List.forall_mem_cons.mpr ⟨dk10_362, List.forall_mem_cons.mpr ⟨dk10_364, List.forall_mem_cons.mpr ⟨dk10_367, List.forall_mem_cons.mpr ⟨dk10_368, List.forall_mem_cons.mpr ⟨dk10_369, List.forall_mem_cons.mpr ⟨dk10_372, List.forall_mem_cons.mpr ⟨dk10_373, List.forall_mem_cons.mpr ⟨dk10_375, List.forall_mem_cons.mpr ⟨dk10_377, List.forall_mem_cons.mpr ⟨dk10_380, List.forall_mem_cons.mpr ⟨dk10_381, List.forall_mem_cons.mpr ⟨dk10_383, List.forall_mem_cons.mpr ⟨dk10_385, List.forall_mem_cons.mpr ⟨dk10_388, List.forall_mem_cons.mpr ⟨dk10_389, List.forall_mem_cons.mpr ⟨dk10_391, List.forall_mem_cons.mpr ⟨dk10_393, List.forall_mem_cons.mpr ⟨dk10_396, List.forall_mem_cons.mpr ⟨dk10_397, List.forall_mem_cons.mpr ⟨dk10_399, List.forall_mem_cons.mpr ⟨dk10_401, List.forall_mem_cons.mpr ⟨dk10_404, List.forall_mem_cons.mpr ⟨dk10_405, List.forall_mem_cons.mpr ⟨dk10_407, List.forall_mem_cons.mpr ⟨dk10_409, List.forall_mem_cons.mpr ⟨dk10_412, List.forall_mem_cons.mpr ⟨dk10_413, List.forall_mem_cons.mpr ⟨dk10_415, List.forall_mem_cons.mpr ⟨dk10_417, List.forall_mem_cons.mpr ⟨dk10_420, List.forall_mem_cons.mpr ⟨dk10_421, List.forall_mem_cons.mpr ⟨dk10_423, List.forall_mem_cons.mpr ⟨dk10_425, List.forall_mem_cons.mpr ⟨dk10_428, List.forall_mem_cons.mpr ⟨dk10_429, List.forall_mem_cons.mpr ⟨dk10_432, fun _ h => absurd h List.not_mem_nil⟩⟩⟩⟩⟩⟩⟩⟩⟩⟩⟩⟩⟩⟩⟩⟩⟩⟩⟩⟩⟩⟩⟩⟩⟩⟩⟩⟩⟩⟩⟩⟩⟩⟩⟩⟩⟩⟩⟩⟩⟩⟩⟩⟩⟩⟩⟩⟩⟩⟩⟩⟩⟩⟩⟩⟩⟩⟩⟩⟩⟩⟩⟩⟩⟩⟩⟩⟩⟩⟩⟩⟩⟩⟩⟩⟩⟩⟩⟩⟩⟩⟩⟩⟩⟩⟩⟩⟩⟩⟩⟩⟩⟩⟩⟩⟩⟩⟩⟩⟩⟩⟩⟩⟩⟩⟩⟩⟩⟩⟩⟩⟩⟩⟩⟩⟩⟩⟩⟩⟩⟩⟩⟩⟩⟩⟩⟩⟩⟩⟩⟩⟩⟩⟩⟩⟩⟩⟩⟩⟩⟩⟩⟩⟩⟩⟩⟩⟩⟩⟩⟩⟩⟩⟩⟩⟩⟩⟩⟩⟩⟩⟩⟩⟩⟩⟩⟩⟩⟩⟩⟩⟩⟩⟩⟩⟩⟩⟩⟩⟩⟩⟩⟩⟩⟩⟩⟩⟩⟩⟩⟩⟩⟩⟩⟩⟩⟩⟩⟩⟩⟩⟩⟩⟩⟩⟩⟩⟩⟩⟩⟩⟩⟩⟩⟩⟩⟩⟩⟩⟩⟩⟩⟩⟩⟩⟩⟩⟩⟩⟩⟩⟩⟩⟩⟩⟩⟩
def dz_56 : List (Nat × Instr × Nat) := [(0, .iload_n 0, 1), (1, .bipush 97, 2), (3, .isub, 1), (4, .iconst 1, 1), (5, .iadd, 1), (6, .iconst 5, 1), (7, .iconst 5, 1), (8, .iload_n 1, 1), (9, .isub, 1), (10, .imul, 1), (11, .ishl, 1), (12, .ireturn, 1)]
set_option maxRecDepth 20000 in
theorem dz_56_ok : ∀ r ∈ dz_56, decode prog_9_method_2_code r.1 = .ok r.2 := List.forall_mem_cons.mpr ⟨D56_0, List.forall_mem_cons.mpr ⟨D56_1, List.forall_mem_cons.mpr ⟨D56_3, List.forall_mem_cons.mpr ⟨D56_4, List.forall_mem_cons.mpr ⟨D56_5, List.forall_mem_cons.mpr ⟨D56_6, List.forall_mem_cons.mpr ⟨D56_7, List.forall_mem_cons.mpr ⟨D56_8, List.forall_mem_cons.mpr ⟨D56_9, List.forall_mem_cons.mpr ⟨D56_10, List.forall_mem_cons.mpr ⟨D56_11, List.forall_mem_cons.mpr ⟨D56_12, fun _ h => absurd h List.not_mem_nil⟩⟩⟩⟩⟩⟩⟩⟩⟩⟩⟩⟩
def dz_168 : List (Nat × Instr × Nat) := [(0, .aload_n 0, 1), (1, .getfield 72, 3), (4, .iload_n 1, 1), (5, .iconst 0, 1), (6, .iastore, 1), (7, .aload_n 0, 1), (8, .getfield 75, 3), (11, .iload_n 1, 1), (12, .aload_n 0, 1), (13, .getfield 13, 3), (16, .iconst 5, 1), (17, .iaload, 1), (18, .iastore, 1), (19, .aload_n 0, 1), (20, .getfield 78, 3), (23, .iload_n 1, 1), (24, .iconst 0, 1), (25, .iastore, 1), (26, .aload_n 0, 1), (27, .getfield 81, 3), (30, .iload_n 1, 1), (31, .iconst 0, 1), (32, .iastore, 1), (33, .aload_n 0, 1), (34, .getfield 84, 3), (37, .iload_n 1, 1), (38, .iconst 0, 1), (39, .iastore, 1), (40, .iconst 0, 1), (41, .istore_n 2, 1), (42, .iload_n 2, 1), (43, .bipush 6, 2), (45, .if_icmp .ge 125, 3), (48, .bipush 6, 2), (50, .iload_n 1, 1), (51, .imul, 1), (52, .iload_n 2, 1), (53, .iadd, 1), (54, .istore_n 3, 1), (55, .iload_n 2, 1), (56, .aload_n 0, 1), (57, .getfield 13, 3), (60, .iconst 0, 1), (61, .iaload, 1), (62, .if_icmp .ge 7, 3), (65, .iconst 1, 1), (66, .goto 4, 3), (69, .iconst 0, 1), (70, .istore 4, 2), (72, .iconst 0, 1), (73, .istore 5, 2), (75, .iload 5, 2), (77, .iconst 3, 1), (78, .if_icmp .ge 44, 3), (81, .aload_n 0, 1), (82, .getfield 87, 3), (85, .iconst 3, 1), (86, .iload_n 3, 1), (87, .imul, 1), (88, .iload 5, 2), (90, .iadd, 1), (91, .iload 4, 2), (93, .ifCond .eq 21, 3), (96, .sipush 1000, 3), (99, .aload_n 0, 1), (100, .getfield 19, 3), (103, .iconst 3, 1), (104, .iload_n 2, 1), (105, .imul, 1), (106, .iload 5, 2), (108, .iadd, 1), (109, .iaload, 1), (110, .imul, 1), (111, .goto 4, 3), (114, .iconst 0, 1), (115, .iastore, 1), (116, .iinc 5 1, 3), (119, .goto (-44), 3), (122, .aload_n 0, 1), (123, .getfield 90, 3), (126, .iload_n 3, 1), (127, .iconst (-1), 1), (128, .iastore, 1), (129, .aload_n 0, 1), (130, .getfield 93, 3), (133, .iload_n 3, 1), (134, .iconst 0, 1), (135, .iastore, 1), (136, .aload_n 0, 1), (137, .getfield 96, 3), (140, .iload_n 3, 1), (141, .iconst 0, 1), (142, .iastore, 1), (143, .aload_n 0, 1), (144, .getfield 99, 3), (147, .iload_n 3, 1), (148, .iload 4, 2), (150, .ifCond .eq 12, 3), (153, .aload_n 0, 1), (154, .getfield 22, 3), (157, .iload_n 2, 1), (158, .iaload, 1), (159, .goto 4, 3), (162, .iconst 0, 1), (163, .iastore, 1), (164, .iinc 2 1, 3), (167, .goto (-125), 3), (170, .iconst 0, 1), (171, .istore_n 2, 1), (172, .iload_n 2, 1), (173, .bipush 12, 2), (175, .if_icmp .ge 51, 3), (178, .aload_n 0, 1), (179, .getfield 102, 3), (182, .bipush 12, 2), (184, .iload_n 1, 1), (185, .imul, 1), (186, .iload_n 2, 1), (187, .iadd, 1), (188, .iconst 0, 1), (189, .iastore, 1), (190, .iconst 0, 1), (191, .istore_n 3, 1), (192, .iload_n 3, 1), (193, .iconst 3, 1), (194, .if_icmp .ge 26, 3), (197, .aload_n 0, 1), (198, .getfield 105, 3), (201, .iconst 3, 1), (202, .bipush 12, 2), (204, .iload_n 1, 1), (205, .imul, 1), (206, .iload_n 2, 1), (207, .iadd, 1), (208, .imul, 1), (209, .iload_n 3, 1), (210, .iadd, 1), (211, .bipush (-2), 2), (213, .iastore, 1), (214, .iinc 3 1, 3), (217, .goto (-25), 3), (220, .iinc 2 1, 3), (223, .goto (-51), 3), (226, .return_, 1)]
set_option maxRecDepth 20000 in
theorem dz_168_ok : ∀ r ∈ dz_168, decode prog_12_method_42_code r.1 = .ok r.2 := List.forall_mem_cons.mpr ⟨D168_0, List.forall_mem_cons.mpr ⟨D168_1, List.forall_mem_cons.mpr ⟨D168_4, List.forall_mem_cons.mpr ⟨D168_5, List.forall_mem_cons.mpr ⟨D168_6, List.forall_mem_cons.mpr ⟨D168_7, List.forall_mem_cons.mpr ⟨D168_8, List.forall_mem_cons.mpr ⟨D168_11, List.forall_mem_cons.mpr ⟨D168_12, List.forall_mem_cons.mpr ⟨D168_13, List.forall_mem_cons.mpr ⟨D168_16, List.forall_mem_cons.mpr ⟨D168_17, List.forall_mem_cons.mpr ⟨D168_18, List.forall_mem_cons.mpr ⟨D168_19, List.forall_mem_cons.mpr ⟨D168_20, List.forall_mem_cons.mpr ⟨D168_23, List.forall_mem_cons.mpr ⟨D168_24, List.forall_mem_cons.mpr ⟨D168_25, List.forall_mem_cons.mpr ⟨D168_26, List.forall_mem_cons.mpr ⟨D168_27, List.forall_mem_cons.mpr ⟨D168_30, List.forall_mem_cons.mpr ⟨D168_31, List.forall_mem_cons.mpr ⟨D168_32, List.forall_mem_cons.mpr ⟨D168_33, List.forall_mem_cons.mpr ⟨D168_34, List.forall_mem_cons.mpr ⟨D168_37, List.forall_mem_cons.mpr ⟨D168_38, List.forall_mem_cons.mpr ⟨D168_39, List.forall_mem_cons.mpr ⟨D168_40, List.forall_mem_cons.mpr ⟨D168_41, List.forall_mem_cons.mpr ⟨D168_42, List.forall_mem_cons.mpr ⟨D168_43, List.forall_mem_cons.mpr ⟨D168_45, List.forall_mem_cons.mpr ⟨D168_48, List.forall_mem_cons.mpr ⟨D168_50, List.forall_mem_cons.mpr ⟨D168_51, List.forall_mem_cons.mpr ⟨D168_52, List.forall_mem_cons.mpr ⟨D168_53, List.forall_mem_cons.mpr ⟨D168_54, List.forall_mem_cons.mpr ⟨D168_55, List.forall_mem_cons.mpr ⟨D168_56, List.forall_mem_cons.mpr ⟨D168_57, List.forall_mem_cons.mpr ⟨D168_60, List.forall_mem_cons.mpr ⟨D168_61, List.forall_mem_cons.mpr ⟨D168_62, List.forall_mem_cons.mpr ⟨D168_65, List.forall_mem_cons.mpr ⟨D168_66, List.forall_mem_cons.mpr ⟨D168_69, List.forall_mem_cons.mpr ⟨D168_70, List.forall_mem_cons.mpr ⟨D168_72, List.forall_mem_cons.mpr ⟨D168_73, List.forall_mem_cons.mpr ⟨D168_75, List.forall_mem_cons.mpr ⟨D168_77, List.forall_mem_cons.mpr ⟨D168_78, List.forall_mem_cons.mpr ⟨D168_81, List.forall_mem_cons.mpr ⟨D168_82, List.forall_mem_cons.mpr ⟨D168_85, List.forall_mem_cons.mpr ⟨D168_86, List.forall_mem_cons.mpr ⟨D168_87, List.forall_mem_cons.mpr ⟨D168_88, List.forall_mem_cons.mpr ⟨D168_90, List.forall_mem_cons.mpr ⟨D168_91, List.forall_mem_cons.mpr ⟨D168_93, List.forall_mem_cons.mpr ⟨D168_96, List.forall_mem_cons.mpr ⟨D168_99, List.forall_mem_cons.mpr ⟨D168_100, List.forall_mem_cons.mpr ⟨D168_103, List.forall_mem_cons.mpr ⟨D168_104, List.forall_mem_cons.mpr ⟨D168_105, List.forall_mem_cons.mpr ⟨D168_106, List.forall_mem_cons.mpr ⟨D168_108, List.forall_mem_cons.mpr ⟨D168_109, List.forall_mem_cons.mpr ⟨D168_110, List.forall_mem_cons.mpr ⟨D168_111, List.forall_mem_cons.mpr ⟨D168_114, List.forall_mem_cons.mpr ⟨D168_115, List.forall_mem_cons.mpr ⟨D168_116, List.forall_mem_cons.mpr ⟨D168_119, List.forall_mem_cons.mpr ⟨D168_122, List.forall_mem_cons.mpr ⟨D168_123, List.forall_mem_cons.mpr ⟨D168_126, List.forall_mem_cons.mpr ⟨D168_127, List.forall_mem_cons.mpr ⟨D168_128, List.forall_mem_cons.mpr ⟨D168_129, List.forall_mem_cons.mpr ⟨D168_130, List.forall_mem_cons.mpr ⟨D168_133, List.forall_mem_cons.mpr ⟨D168_134, List.forall_mem_cons.mpr ⟨D168_135, List.forall_mem_cons.mpr ⟨D168_136, List.forall_mem_cons.mpr ⟨D168_137, List.forall_mem_cons.mpr ⟨D168_140, List.forall_mem_cons.mpr ⟨D168_141, List.forall_mem_cons.mpr ⟨D168_142, List.forall_mem_cons.mpr ⟨D168_143, List.forall_mem_cons.mpr ⟨D168_144, List.forall_mem_cons.mpr ⟨D168_147, List.forall_mem_cons.mpr ⟨D168_148, List.forall_mem_cons.mpr ⟨D168_150, List.forall_mem_cons.mpr ⟨D168_153, List.forall_mem_cons.mpr ⟨D168_154, List.forall_mem_cons.mpr ⟨D168_157, List.forall_mem_cons.mpr ⟨D168_158, List.forall_mem_cons.mpr ⟨D168_159, List.forall_mem_cons.mpr ⟨D168_162, List.forall_mem_cons.mpr ⟨D168_163, List.forall_mem_cons.mpr ⟨D168_164, List.forall_mem_cons.mpr ⟨D168_167, List.forall_mem_cons.mpr ⟨D168_170, List.forall_mem_cons.mpr ⟨D168_171, List.forall_mem_cons.mpr ⟨D168_172, List.forall_mem_cons.mpr ⟨D168_173, List.forall_mem_cons.mpr ⟨D168_175, List.forall_mem_cons.mpr ⟨D168_178, List.forall_mem_cons.mpr ⟨D168_179, List.forall_mem_cons.mpr ⟨D168_182, List.forall_mem_cons.mpr ⟨D168_184, List.forall_mem_cons.mpr ⟨D168_185, List.forall_mem_cons.mpr ⟨D168_186, List.forall_mem_cons.mpr ⟨D168_187, List.forall_mem_cons.mpr ⟨D168_188, List.forall_mem_cons.mpr ⟨D168_189, List.forall_mem_cons.mpr ⟨D168_190, List.forall_mem_cons.mpr ⟨D168_191, List.forall_mem_cons.mpr ⟨D168_192, List.forall_mem_cons.mpr ⟨D168_193, List.forall_mem_cons.mpr ⟨D168_194, List.forall_mem_cons.mpr ⟨D168_197, List.forall_mem_cons.mpr ⟨D168_198, List.forall_mem_cons.mpr ⟨D168_201, List.forall_mem_cons.mpr ⟨D168_202, List.forall_mem_cons.mpr ⟨D168_204, List.forall_mem_cons.mpr ⟨D168_205, List.forall_mem_cons.mpr ⟨D168_206, List.forall_mem_cons.mpr ⟨D168_207, List.forall_mem_cons.mpr ⟨D168_208, List.forall_mem_cons.mpr ⟨D168_209, List.forall_mem_cons.mpr ⟨D168_210, List.forall_mem_cons.mpr ⟨D168_211, List.forall_mem_cons.mpr ⟨D168_213, List.forall_mem_cons.mpr ⟨D168_214, List.forall_mem_cons.mpr ⟨D168_217, List.forall_mem_cons.mpr ⟨D168_220, List.forall_mem_cons.mpr ⟨D168_223, List.forall_mem_cons.mpr ⟨D168_226, fun _ h => absurd h List.not_mem_nil⟩⟩⟩⟩⟩⟩⟩⟩⟩⟩⟩⟩⟩⟩⟩⟩⟩⟩⟩⟩⟩⟩⟩⟩⟩⟩⟩⟩⟩⟩⟩⟩⟩⟩⟩⟩⟩⟩⟩⟩⟩⟩⟩⟩⟩⟩⟩⟩⟩⟩⟩⟩⟩⟩⟩⟩⟩⟩⟩⟩⟩⟩⟩⟩⟩⟩⟩⟩⟩⟩⟩⟩⟩⟩⟩⟩⟩⟩⟩⟩⟩⟩⟩⟩⟩⟩⟩⟩⟩⟩⟩⟩⟩⟩⟩⟩⟩⟩⟩⟩⟩⟩⟩⟩⟩⟩⟩⟩⟩⟩⟩⟩⟩⟩⟩⟩⟩⟩⟩⟩⟩⟩⟩⟩⟩⟩⟩⟩⟩⟩⟩⟩⟩⟩⟩⟩⟩⟩⟩⟩⟩⟩⟩⟩
def dz_169 : List (Nat × Instr × Nat) := [(0, .aload_n 0, 1), (1, .iconst 0, 1), (2, .invokevirtual 337, 3), (5, .return_, 1)]
set_option maxRecDepth 20000 in
theorem dz_169_ok : ∀ r ∈ dz_169, decode prog_12_method_43_code r.1 = .ok r.2 := List.forall_mem_cons.mpr ⟨D169_0, List.forall_mem_cons.mpr ⟨D169_1, List.forall_mem_cons.mpr ⟨D169_2, List.forall_mem_cons.mpr ⟨D169_5, fun _ h => absurd h List.not_mem_nil⟩⟩⟩⟩
def dzL (M : Nat) : List (Nat × Instr × Nat) := if M = 56 then dz_56 else if M = 168 then dz_168 else if M = 169 then dz_169 else []
def dzF (M pc : Nat) : Option (Instr × Nat) := ((dzL M).find? (fun q => q.1 == pc)).map (fun q => q.2)
def dkL (ci : Nat) : List (Nat × Instr × Nat) := if ci = 0 then dk_0 else if ci = 1 then dk_1 else if ci = 2 then dk_2 else if ci = 3 then dk_3 else if ci = 4 then dk_4 else if ci = 5 then dk_5 else if ci = 6 then dk_6 else if ci = 7 then dk_7 else if ci = 8 then dk_8 else if ci = 9 then dk_9 else if ci = 10 then dk_10 else []
def dkF (ci pc : Nat) : Option (Instr × Nat) := ((dkL ci).find? (fun q => q.1 == pc)).map (fun q => q.2)
theorem dF_s {l : List (Nat × Instr × Nat)} {pc : Nat} {r : Instr × Nat} (h : (l.find? (fun q => q.1 == pc)).map (fun q => q.2) = some r) : (pc, r) ∈ l := by
  obtain ⟨q, hq, e⟩ := Option.map_eq_some_iff.mp h
  have h1 := List.find?_some hq
  simp only [beq_iff_eq] at h1
  obtain ⟨a, b⟩ := q
  cases e
  cases h1
  exact List.mem_of_find?_eq_some hq
theorem dzF_ok {M pc : Nat} {mi : zMI} {r : Instr × Nat} (hm : zmt[M]? = some mi) (h : dzF M pc = some r) : decode mi.2.1 pc = .ok r := by
  have h1 := dF_s h
  unfold dzL at h1
  by_cases e56 : M = 56
  · rw [if_pos e56] at h1
    rw [e56] at hm
    cases Option.some.inj (zm_56.symm.trans hm)
    exact dz_56_ok (pc, r) h1
  rw [if_neg e56] at h1
  by_cases e168 : M = 168
  · rw [if_pos e168] at h1
    rw [e168] at hm
    cases Option.some.inj (zm_168.symm.trans hm)
    exact dz_168_ok (pc, r) h1
  rw [if_neg e168] at h1
  by_cases e169 : M = 169
  · rw [if_pos e169] at h1
    rw [e169] at hm
    cases Option.some.inj (zm_169.symm.trans hm)
    exact dz_169_ok (pc, r) h1
  rw [if_neg e169] at h1
  cases h1
