/-! the words' Strings: what the JDK's members answer of them -/
def zTX0 : String := "man lease letter wear watch seed law rent turn fine or and not slant loops weight purse price times day"
def zlenS : List Nat := [103, 104]
def zbytS : List (List Int32) := [[109, 97, 110, 32, 108, 101, 97, 115, 101, 32, 108, 101, 116, 116, 101, 114, 32, 119, 101, 97, 114, 32, 119, 97, 116, 99, 104, 32, 115, 101, 101, 100, 32, 108, 97, 119, 32, 114, 101, 110, 116, 32, 116, 117, 114, 110, 32, 102, 105, 110, 101, 32, 111, 114, 32, 97, 110, 100, 32, 110, 111, 116, 32, 115, 108, 97, 110, 116, 32, 108, 111, 111, 112, 115, 32, 119, 101, 105, 103, 104, 116, 32, 112, 117, 114, 115, 101, 32, 112, 114, 105, 99, 101, 32, 116, 105, 109, 101, 115, 32, 100, 97, 121], zwds]
def zNest : List Cond := [.methodLinkNest "HandsLet" 11 ⟨"HandsLet$Reader", "<init>", "()V"⟩ "HandsLet", .methodLinkNest "HandsLet" 20 ⟨"HandsLet$Plan", "<init>", "()V"⟩ "HandsLet", .methodLinkNest "HandsLet" 30 ⟨"HandsLet$World", "<init>", "()V"⟩ "HandsLet", .methodLinkNest "HandsLet" 43 ⟨"HandsLet$Course", "<init>", "()V"⟩ "HandsLet", .methodLinkNest "HandsLet$Course" 11 ⟨"HandsLet$Sums", "<init>", "()V"⟩ "HandsLet", .methodLinkNest "HandsLet" 50 ⟨"HandsLet$Sight", "<init>", "()V"⟩ "HandsLet", .methodLinkNest "HandsLet" 57 ⟨"HandsLet$Deeds", "<init>", "()V"⟩ "HandsLet", .methodLinkNest "HandsLet" 64 ⟨"HandsLet$Matching", "<init>", "()V"⟩ "HandsLet"]
theorem zNest_in : ∀ w ∈ zNest, w ∈ tables_1 := by decide +kernel
theorem zNest_form : ∀ w ∈ zNest, ∃ a i x h, w = .methodLinkNest a i x h := by
  intro w hw
  simp only [zNest, List.mem_cons, List.not_mem_nil, or_false] at hw
  rcases hw with rfl | rfl | rfl | rfl | rfl | rfl | rfl | rfl <;> exact ⟨_, _, _, _, rfl⟩
def zES (adK adV : Nat → Nat) (A : Nat → Prop) (U : State) (H : Heap) : Prop := vk_S 2 zlenS zbytS adK adV A U H ∧ va_Z "java/lang/String" "COMPACT_STRINGS" "Z" (.int 1) A U H ∧ va_Zq "jdk/internal/util/Preconditions" "SIOOBE_FORMATTER" "Ljava/util/function/BiFunction;" A U H ∧ vk_R "HandsLet$Tokens" 19 zTX0 (adK 0) U ∧ ∀ w ∈ zNest, va_Nw w U
theorem zES_ok (adK adV : Nat → Nat) : zESok (zES adK adV) := by
  refine ⟨fun A s U H hW h => ?_, fun A U g mk a H h => ?_, fun A U H H1 h hk => ?_, fun A B U H h hn => ?_⟩
  · refine ⟨vk_S.moved hW.alike h.1, va_Z.moved hW.alike h.2.1, va_Zq.moved hW.alike h.2.2.1, vk_R.warm hW h.2.2.2.1, fun w hw => ?_⟩
    obtain ⟨a, i, x, q, rfl⟩ := zNest_form w hw
    exact va_Nw.warmM hW (h.2.2.2.2 _ hw)
  · refine ⟨vk_S.moved (u := U) (U := U.calling g mk a) (Vm.Alike.refl U.vm) h.1, va_Z.moved (u := U) (U := U.calling g mk a) (Vm.Alike.refl U.vm) h.2.1, va_Zq.moved (u := U) (U := U.calling g mk a) (Vm.Alike.refl U.vm) h.2.2.1, vk_R.same (u := U) (U := U.calling g mk a) rfl h.2.2.2.1, fun w hw => ?_⟩
    obtain ⟨a, i, x, q, rfl⟩ := zNest_form w hw
    exact va_Nw.same (u := U) rfl rfl (h.2.2.2.2 _ hw)
  · exact ⟨vk_S.kept h.1 hk, va_Z.kept h.2.1 hk, va_Zq.kept h.2.2.1 hk, h.2.2.2.1, h.2.2.2.2⟩
  · exact ⟨vk_S.narrow h.1 hn, va_Z.narrow h.2.1 hn, va_Zq.narrow h.2.2.1 hn, h.2.2.2.1, h.2.2.2.2⟩
def ys_coder : MethodName := ⟨"java/lang/String", "coder", "()B"⟩
def cs_coder : Cond := .code ys_coder prog_21_method_152_code 1 (some (.byte))
set_option maxRecDepth 20000 in
theorem ws_coder : cs_coder ∈ zTB := zTB_in (List.mem_of_getElem? (i := 168) rfl) rfl
theorem ds_coder_0 : decode prog_21_method_152_code 0 = .ok (.getstatic 38, 3) := by decide +kernel
theorem ds_coder_3 : decode prog_21_method_152_code 3 = .ok (.ifCond .eq 10, 3) := by decide +kernel
theorem ds_coder_6 : decode prog_21_method_152_code 6 = .ok (.aload_n 0, 1) := by decide +kernel
theorem ds_coder_7 : decode prog_21_method_152_code 7 = .ok (.getfield 15, 3) := by decide +kernel
theorem ds_coder_10 : decode prog_21_method_152_code 10 = .ok (.goto 4, 3) := by decide +kernel
theorem ds_coder_13 : decode prog_21_method_152_code 13 = .ok (.iconst 1, 1) := by decide +kernel
theorem ds_coder_14 : decode prog_21_method_152_code 14 = .ok (.ireturn, 1) := by decide +kernel
def ys_length : MethodName := ⟨"java/lang/String", "length", "()I"⟩
def cs_length : Cond := .code ys_length prog_21_method_54_code 1 (some (.int))
set_option maxRecDepth 20000 in
theorem ws_length : cs_length ∈ zTB := zTB_in (List.mem_of_getElem? (i := 164) rfl) rfl
theorem ds_length_0 : decode prog_21_method_54_code 0 = .ok (.aload_n 0, 1) := by decide +kernel
theorem ds_length_1 : decode prog_21_method_54_code 1 = .ok (.getfield 9, 3) := by decide +kernel
theorem ds_length_4 : decode prog_21_method_54_code 4 = .ok (.arraylength, 1) := by decide +kernel
theorem ds_length_5 : decode prog_21_method_54_code 5 = .ok (.aload_n 0, 1) := by decide +kernel
theorem ds_length_6 : decode prog_21_method_54_code 6 = .ok (.invokevirtual 335, 3) := by decide +kernel
theorem ds_length_9 : decode prog_21_method_54_code 9 = .ok (.ishr, 1) := by decide +kernel
theorem ds_length_10 : decode prog_21_method_54_code 10 = .ok (.ireturn, 1) := by decide +kernel
def ys_isLatin1 : MethodName := ⟨"java/lang/String", "isLatin1", "()Z"⟩
def cs_isLatin1 : Cond := .code ys_isLatin1 prog_21_method_154_code 1 (some (.boolean))
set_option maxRecDepth 20000 in
theorem ws_isLatin1 : cs_isLatin1 ∈ zTB := zTB_in (List.mem_of_getElem? (i := 178) rfl) rfl
theorem ds_isLatin1_0 : decode prog_21_method_154_code 0 = .ok (.getstatic 38, 3) := by decide +kernel
theorem ds_isLatin1_3 : decode prog_21_method_154_code 3 = .ok (.ifCond .eq 14, 3) := by decide +kernel
theorem ds_isLatin1_6 : decode prog_21_method_154_code 6 = .ok (.aload_n 0, 1) := by decide +kernel
theorem ds_isLatin1_7 : decode prog_21_method_154_code 7 = .ok (.getfield 15, 3) := by decide +kernel
theorem ds_isLatin1_10 : decode prog_21_method_154_code 10 = .ok (.ifCond .ne 7, 3) := by decide +kernel
theorem ds_isLatin1_13 : decode prog_21_method_154_code 13 = .ok (.iconst 1, 1) := by decide +kernel
theorem ds_isLatin1_14 : decode prog_21_method_154_code 14 = .ok (.goto 4, 3) := by decide +kernel
theorem ds_isLatin1_17 : decode prog_21_method_154_code 17 = .ok (.iconst 0, 1) := by decide +kernel
theorem ds_isLatin1_18 : decode prog_21_method_154_code 18 = .ok (.ireturn, 1) := by decide +kernel
def ys_pcheck : MethodName := ⟨"jdk/internal/util/Preconditions", "checkIndex", "(IILjava/util/function/BiFunction;)I"⟩
def cs_pcheck : Cond := .code ys_pcheck prog_29_method_11_code 3 (some (.int))
set_option maxRecDepth 20000 in
theorem ws_pcheck : cs_pcheck ∈ zTB := zTB_in (List.mem_of_getElem? (i := 189) rfl) rfl
theorem ds_pcheck_0 : decode prog_29_method_11_code 0 = .ok (.iload_n 0, 1) := by decide +kernel
theorem ds_pcheck_1 : decode prog_29_method_11_code 1 = .ok (.ifCond .lt 8, 3) := by decide +kernel
theorem ds_pcheck_4 : decode prog_29_method_11_code 4 = .ok (.iload_n 0, 1) := by decide +kernel
theorem ds_pcheck_5 : decode prog_29_method_11_code 5 = .ok (.iload_n 1, 1) := by decide +kernel
theorem ds_pcheck_6 : decode prog_29_method_11_code 6 = .ok (.if_icmp .lt 10, 3) := by decide +kernel
theorem ds_pcheck_9 : decode prog_29_method_11_code 9 = .ok (.aload_n 2, 1) := by decide +kernel
theorem ds_pcheck_10 : decode prog_29_method_11_code 10 = .ok (.iload_n 0, 1) := by decide +kernel
theorem ds_pcheck_11 : decode prog_29_method_11_code 11 = .ok (.iload_n 1, 1) := by decide +kernel
theorem ds_pcheck_12 : decode prog_29_method_11_code 12 = .ok (.invokestatic 95, 3) := by decide +kernel
theorem ds_pcheck_15 : decode prog_29_method_11_code 15 = .ok (.athrow, 1) := by decide +kernel
theorem ds_pcheck_16 : decode prog_29_method_11_code 16 = .ok (.iload_n 0, 1) := by decide +kernel
theorem ds_pcheck_17 : decode prog_29_method_11_code 17 = .ok (.ireturn, 1) := by decide +kernel
def ys_check : MethodName := ⟨"java/lang/String", "checkIndex", "(II)V"⟩
def cs_check : Cond := .code ys_check prog_21_method_155_code 2 none
set_option maxRecDepth 20000 in
theorem ws_check : cs_check ∈ zTB := zTB_in (List.mem_of_getElem? (i := 184) rfl) rfl
theorem ds_check_0 : decode prog_21_method_155_code 0 = .ok (.iload_n 0, 1) := by decide +kernel
theorem ds_check_1 : decode prog_21_method_155_code 1 = .ok (.iload_n 1, 1) := by decide +kernel
theorem ds_check_2 : decode prog_21_method_155_code 2 = .ok (.getstatic 1053, 3) := by decide +kernel
theorem ds_check_5 : decode prog_21_method_155_code 5 = .ok (.invokestatic 1059, 3) := by decide +kernel
theorem ds_check_8 : decode prog_21_method_155_code 8 = .ok (.pop, 1) := by decide +kernel
theorem ds_check_9 : decode prog_21_method_155_code 9 = .ok (.return_, 1) := by decide +kernel
def ys_lcharAt : MethodName := ⟨"java/lang/StringLatin1", "charAt", "([BI)C"⟩
def cs_lcharAt : Cond := .code ys_lcharAt prog_22_method_2_code 2 (some (.char))
set_option maxRecDepth 20000 in
theorem ws_lcharAt : cs_lcharAt ∈ zTB := zTB_in (List.mem_of_getElem? (i := 181) rfl) rfl
theorem ds_lcharAt_0 : decode prog_22_method_2_code 0 = .ok (.iload_n 1, 1) := by decide +kernel
theorem ds_lcharAt_1 : decode prog_22_method_2_code 1 = .ok (.aload_n 0, 1) := by decide +kernel
theorem ds_lcharAt_2 : decode prog_22_method_2_code 2 = .ok (.arraylength, 1) := by decide +kernel
theorem ds_lcharAt_3 : decode prog_22_method_2_code 3 = .ok (.invokestatic 9, 3) := by decide +kernel
theorem ds_lcharAt_6 : decode prog_22_method_2_code 6 = .ok (.aload_n 0, 1) := by decide +kernel
theorem ds_lcharAt_7 : decode prog_22_method_2_code 7 = .ok (.iload_n 1, 1) := by decide +kernel
theorem ds_lcharAt_8 : decode prog_22_method_2_code 8 = .ok (.baload, 1) := by decide +kernel
theorem ds_lcharAt_9 : decode prog_22_method_2_code 9 = .ok (.sipush 255, 3) := by decide +kernel
theorem ds_lcharAt_12 : decode prog_22_method_2_code 12 = .ok (.iand, 1) := by decide +kernel
theorem ds_lcharAt_13 : decode prog_22_method_2_code 13 = .ok (.i2c, 1) := by decide +kernel
theorem ds_lcharAt_14 : decode prog_22_method_2_code 14 = .ok (.ireturn, 1) := by decide +kernel
def ys_charAt : MethodName := ⟨"java/lang/String", "charAt", "(I)C"⟩
def cs_charAt : Cond := .code ys_charAt prog_21_method_56_code 2 (some (.char))
set_option maxRecDepth 20000 in
theorem ws_charAt : cs_charAt ∈ zTB := zTB_in (List.mem_of_getElem? (i := 174) rfl) rfl
theorem ds_charAt_0 : decode prog_21_method_56_code 0 = .ok (.aload_n 0, 1) := by decide +kernel
theorem ds_charAt_1 : decode prog_21_method_56_code 1 = .ok (.invokevirtual 492, 3) := by decide +kernel
theorem ds_charAt_4 : decode prog_21_method_56_code 4 = .ok (.ifCond .eq 12, 3) := by decide +kernel
theorem ds_charAt_7 : decode prog_21_method_56_code 7 = .ok (.aload_n 0, 1) := by decide +kernel
theorem ds_charAt_8 : decode prog_21_method_56_code 8 = .ok (.getfield 9, 3) := by decide +kernel
theorem ds_charAt_11 : decode prog_21_method_56_code 11 = .ok (.iload_n 1, 1) := by decide +kernel
theorem ds_charAt_12 : decode prog_21_method_56_code 12 = .ok (.invokestatic 495, 3) := by decide +kernel
theorem ds_charAt_15 : decode prog_21_method_56_code 15 = .ok (.ireturn, 1) := by decide +kernel
theorem ds_charAt_16 : decode prog_21_method_56_code 16 = .ok (.aload_n 0, 1) := by decide +kernel
theorem ds_charAt_17 : decode prog_21_method_56_code 17 = .ok (.getfield 9, 3) := by decide +kernel
theorem ds_charAt_20 : decode prog_21_method_56_code 20 = .ok (.iload_n 1, 1) := by decide +kernel
theorem ds_charAt_21 : decode prog_21_method_56_code 21 = .ok (.invokestatic 498, 3) := by decide +kernel
theorem ds_charAt_24 : decode prog_21_method_56_code 24 = .ok (.ireturn, 1) := by decide +kernel
set_option maxRecDepth 20000 in
theorem wk_l_coder : (.methodLink "java/lang/String" 335 ys_coder : Cond) ∈ zTB := zTB_in (List.mem_of_getElem? (i := 165) rfl) rfl
set_option maxRecDepth 20000 in
theorem wk_l_latin : (.methodLink "java/lang/String" 492 ys_isLatin1 : Cond) ∈ zTB := zTB_in (List.mem_of_getElem? (i := 175) rfl) rfl
set_option maxRecDepth 20000 in
theorem wk_l_lchar : (.methodLink "java/lang/String" 495 ys_lcharAt : Cond) ∈ zTB := zTB_in (List.mem_of_getElem? (i := 179) rfl) rfl
set_option maxRecDepth 20000 in
theorem wk_l_check : (.methodLink "java/lang/StringLatin1" 9 ys_check : Cond) ∈ zTB := zTB_in (List.mem_of_getElem? (i := 182) rfl) rfl
set_option maxRecDepth 20000 in
theorem wk_l_pcheck : (.methodLink "java/lang/String" 1059 ys_pcheck : Cond) ∈ zTB := zTB_in (List.mem_of_getElem? (i := 187) rfl) rfl
set_option maxRecDepth 20000 in
theorem wk_i_coder : (.instanceMethod ys_coder : Cond) ∈ zTB := zTB_in (List.mem_of_getElem? (i := 166) rfl) rfl
set_option maxRecDepth 20000 in
theorem wk_s_coder : (.selects "java/lang/String" ys_coder ys_coder : Cond) ∈ zTB := zTB_in (List.mem_of_getElem? (i := 167) rfl) rfl
set_option maxRecDepth 20000 in
theorem wk_i_isLatin1 : (.instanceMethod ys_isLatin1 : Cond) ∈ zTB := zTB_in (List.mem_of_getElem? (i := 176) rfl) rfl
set_option maxRecDepth 20000 in
theorem wk_s_isLatin1 : (.selects "java/lang/String" ys_isLatin1 ys_isLatin1 : Cond) ∈ zTB := zTB_in (List.mem_of_getElem? (i := 177) rfl) rfl
set_option maxRecDepth 20000 in
theorem wk_i_length : (.instanceMethod ys_length : Cond) ∈ zTB := zTB_in (List.mem_of_getElem? (i := 162) rfl) rfl
set_option maxRecDepth 20000 in
theorem wk_s_length : (.selects "java/lang/String" ys_length ys_length : Cond) ∈ zTB := zTB_in (List.mem_of_getElem? (i := 163) rfl) rfl
set_option maxRecDepth 20000 in
theorem wk_i_charAt : (.instanceMethod ys_charAt : Cond) ∈ zTB := zTB_in (List.mem_of_getElem? (i := 172) rfl) rfl
set_option maxRecDepth 20000 in
theorem wk_s_charAt : (.selects "java/lang/String" ys_charAt ys_charAt : Cond) ∈ zTB := zTB_in (List.mem_of_getElem? (i := 173) rfl) rfl
set_option maxRecDepth 20000 in
theorem wk_st_pcheck : (.static ys_pcheck : Cond) ∈ zTB := zTB_in (List.mem_of_getElem? (i := 188) rfl) rfl
set_option maxRecDepth 20000 in
theorem wk_st_check : (.static ys_check : Cond) ∈ zTB := zTB_in (List.mem_of_getElem? (i := 183) rfl) rfl
set_option maxRecDepth 20000 in
theorem wk_st_lcharAt : (.static ys_lcharAt : Cond) ∈ zTB := zTB_in (List.mem_of_getElem? (i := 180) rfl) rfl
set_option maxRecDepth 20000 in
theorem wk_in_S : (.initialized "java/lang/String" : Cond) ∈ zTB := zTB_in (List.mem_of_getElem? (i := 120) rfl) rfl
set_option maxRecDepth 20000 in
theorem wk_in_L : (.initialized "java/lang/StringLatin1" : Cond) ∈ zTB := zTB_in (List.mem_of_getElem? (i := 121) rfl) rfl
set_option maxRecDepth 20000 in
theorem wk_in_P : (.initialized "jdk/internal/util/Preconditions" : Cond) ∈ zTB := zTB_in (List.mem_of_getElem? (i := 122) rfl) rfl
set_option maxRecDepth 20000 in
theorem wk_f_value : (.fieldLink "java/lang/String" 9 "java/lang/String" "value" "[B" : Cond) ∈ zTB := zTB_in (List.mem_of_getElem? (i := 1948) rfl) rfl
set_option maxRecDepth 20000 in
theorem wk_f_coder : (.fieldLink "java/lang/String" 15 "java/lang/String" "coder" "B" : Cond) ∈ zTB := zTB_in (List.mem_of_getElem? (i := 1949) rfl) rfl
set_option maxRecDepth 20000 in
theorem wk_f_cs : (.fieldLink "java/lang/String" 38 "java/lang/String" "COMPACT_STRINGS" "Z" : Cond) ∈ zTB := zTB_in (List.mem_of_getElem? (i := 169) rfl) rfl
set_option maxRecDepth 20000 in
theorem wk_f_sf : (.fieldLink "java/lang/String" 1053 "jdk/internal/util/Preconditions" "SIOOBE_FORMATTER" "Ljava/util/function/BiFunction;" : Cond) ∈ zTB := zTB_in (List.mem_of_getElem? (i := 185) rfl) rfl
def zRq (d : Nat) : Room := { frames := d, cells := 0, slots := 0, locals := 30 * d }
section ZT
variable {p : Program} {l : Launch} {e : Env} {R : Room} {s : State} {m : MethodId} {args : Array Value} {below : List Frame} {meth : Method} {c : Code} {H : Heap} {locs : List Loc} {cells slots : Nat} {QW : State → Prop} {pc nL : Nat} {lsC : Array Slot} {cc : ByteArray} {own : String}
theorem znoL {L : List Loc} (h : ∀ q ∈ L, (fun _ : Addr => False) q.base) : L = [] := by
  cases L with
  | nil => rfl
  | cons a t => exact (h a List.mem_cons_self).elim
theorem zgoodC {w : Cond} (h : w ∈ zTB) : GoodIn zTB (w :: zTB) := by
  intro v hv
  have h1 : v ∈ zTB := by
    rcases List.mem_cons.mp hv with q | q
    · rw [q]; exact h
    · exact q
  exact ⟨h1, good_of_word (List.mem_filter.mp h1).2⟩
/-- a static call that leaves the heap alone -/
theorem zsS {y : MethodName} {bytes : ByteArray} {maxL k d : Nat} {ret : Option FieldType} {As rest : List Value} {B : State → Prop} {Qc : Array Value → State → Outcome → State → Prop} {idx : Nat}
    (S : CallFix p m c cc nL s args zTB own) (hM : Met l y (.code y bytes maxL ret :: zTB) (zRq d) (va_Pc As B) Qc 0 0 (fun _ => False)) (hcode : Cond.code y bytes maxL ret ∈ zTB) (hlink : Cond.methodLink own idx y ∈ zTB) (hstat : Cond.static y ∈ zTB) (hini : Cond.initialized y.cls ∈ zTB)
    (hn : y.cls ≠ "java/lang/invoke/MethodHandle" ∧ y.cls ≠ "java/lang/invoke/VarHandle" ∧ (parseMethodDescriptor y.desc).map (fun d => d.parameters.length) = some k) (hk : As.length = k) (hroom : d + 1 ≤ R.frames ∧ 8 + (maxL + 11) + (30 * d) ≤ R.locals) (hB : ∀ U : State, U.heap = H → s.WarmedH U.vm → B U) (hbl : FrameBlind (va_Pc As B)) (hsz : lsC.size = nL) (hcat : (rest.map fun v => v.category).sum ≤ 8) (hd : decode cc pc = .ok (.invokestatic idx, 3)) (hce : cells ≤ R.cells) (hsl : slots ≤ R.slots)
    (kk : ∀ (v : Option Value) (st₀ t : State), st₀.heap = H → Qc As.toArray st₀ (.returned v) t → W p l e R s m args below meth c t.heap locs cells slots QW (F0 m (pc + 3) lsC (v.toList ++ rest))) : W p l e R s m args below meth c H locs cells slots QW (F0 m pc lsC (As.reverse ++ rest)) := by
  have hCB : CallB R s args own idx y bytes maxL ret (.code y bytes maxL ret :: zTB) (zRq d) 0 0 k := callB_of (ws' := zTB) k S.2.2.2.2 (zgoodC hcode) rfl rfl rfl (S.2.2.2.2 _ hini) (S.2.2.2.2 _ hlink) hn hroom
  exact zrun (va_runS S hM ⟨hCB, S.2.2.2.2 _ hstat⟩ ⟨hbl, fun U hU hW => ⟨rfl, hB U hU hW⟩⟩ rfl hk hsz rfl (lv_room hcat) hd ⟨hce, hsl⟩) (fun v st₀ t L h0 hQ hL => by rw [znoL hL, List.append_nil]; exact kk v st₀ t h0 hQ)
theorem zsV {y : MethodName} {bytes : ByteArray} {maxL k d b : Nat} {ret : Option FieldType} {As rest : List Value} {B : State → Prop} {Qc : Array Value → State → Outcome → State → Prop} {idx : Nat}
    (S : CallFix p m c cc nL s args zTB own) (hM : Met l y (.code y bytes maxL ret :: zTB) (zRq d) (va_Pc (.ref b :: As) B) Qc 0 0 (fun _ => False)) (hcode : Cond.code y bytes maxL ret ∈ zTB) (hlink : Cond.methodLink own idx y ∈ zTB) (hinst : Cond.instanceMethod y ∈ zTB) (hsel : Cond.selects y.cls y y ∈ zTB) (hini : Cond.initialized y.cls ∈ zTB)
    (hn : y.cls ≠ "java/lang/invoke/MethodHandle" ∧ y.cls ≠ "java/lang/invoke/VarHandle" ∧ (parseMethodDescriptor y.desc).map (fun d => d.parameters.length) = some k) (hk : As.length = k) (hroom : d + 1 ≤ R.frames ∧ 8 + (maxL + 11) + (30 * d) ≤ R.locals) (hrec : ∃ cell : Cell, H[b]? = some cell ∧ cell.vm.isStatics = false ∧ s.vm.findClass y.cls = some cell.cls) (hB : ∀ U : State, U.heap = H → s.WarmedH U.vm → B U) (hbl : FrameBlind (va_Pc (.ref b :: As) B)) (hsz : lsC.size = nL) (hcat : (rest.map fun v => v.category).sum ≤ 8) (hd : decode cc pc = .ok (.invokevirtual idx, 3)) (hce : cells ≤ R.cells) (hsl : slots ≤ R.slots)
    (kk : ∀ (v : Option Value) (st₀ t : State), st₀.heap = H → Qc (Value.ref b :: As).toArray st₀ (.returned v) t → W p l e R s m args below meth c t.heap locs cells slots QW (F0 m (pc + 3) lsC (v.toList ++ rest))) : W p l e R s m args below meth c H locs cells slots QW (F0 m pc lsC (As.reverse ++ .ref b :: rest)) := by
  have hCB : CallB R s args own idx y bytes maxL ret (.code y bytes maxL ret :: zTB) (zRq d) 0 0 k := callB_of (ws' := zTB) k S.2.2.2.2 (zgoodC hcode) rfl rfl rfl (S.2.2.2.2 _ hini) (S.2.2.2.2 _ hlink) hn hroom
  exact zrun (va_runV S hM ⟨hCB, S.2.2.2.2 _ hinst, S.2.2.2.2 _ hsel⟩ ⟨hbl, hrec, fun U hU hW => ⟨rfl, hB U hU hW⟩⟩ rfl hk hsz rfl (lv_room hcat) hd ⟨hce, hsl⟩) (fun v st₀ t L h0 hQ hL => by rw [znoL hL, List.append_nil]; exact kk v st₀ t h0 hQ)
end ZT
/-- what the words' members need at their start -/
def zSB (adK adV : Nat → Nat) (A : Nat → Prop) : State → Prop := fun U => zES adK adV A U U.heap
theorem zSbl {adK adV : Nat → Nat} {A : Nat → Prop} {av : List Value} : FrameBlind (va_Pc av (zSB adK adV A)) := fun a U g mk h => ⟨h.1, (zES_ok adK adV).2.1 A U g mk a U.heap h.2⟩
theorem zSwm {adK adV : Nat → Nat} {A : Nat → Prop} {s U : State} (h : zSB adK adV A s) (hU : U.heap = s.heap) (hW : s.WarmedH U.vm) : zSB adK adV A U := by
  unfold zSB
  rw [hU]
  exact (zES_ok adK adV).1 A s U s.heap hW h
section ZU
variable (l : Launch) (adK adV : Nat → Nat) (A : Nat → Prop)
set_option maxHeartbeats 1000000 in
theorem m_coder {i : Nat} (hi : i < 2) : Met l ys_coder (cs_coder :: zTB) (zRq 0) (va_Pc [.ref (adK i)] (zSB adK adV A)) (vp_Si (fun r => r = 0)) 0 0 (fun _ => False) := by
  refine Met.ofW (cc := prog_21_method_152_code) (maxL := 1) (ret := some .byte) (by decide) rfl ?_
  intro p e s m args below meth c s₁ B hml hv
  obtain ⟨rfl, hE⟩ := hv
  have hx := B.exec
  have hb := B.bytes
  have hr := B.returns
  have hts : ∀ w ∈ zTB, w.before ([Value.ref (adK i)] : List Value).toArray s = true := fun w hw => atoms_spec (ws := cs_coder :: zTB) B.pre w (List.mem_cons_of_mem _ hw)
  have hown : s.vm.findClass "java/lang/String" = some m.cls := findClass_of_methodNamed B.named
  have hlocks := B.notSynchronized
  have hl := lv_entry ([.ref (adK i)]) (n := 1) (Nat.le_of_ble_eq_true rfl)
  rw [lg_entry_eq]
  generalize (lg_sl ([.ref (adK i)]) ++ List.replicate (1 - (lg_sl ([.ref (adK i)])).length) Slot.unset).toArray = ls at hl ⊢
  have hl : lv_has ls 1 [(0, .ref (adK i))] := hl
  obtain ⟨h1, h2, h3, -⟩ := hE
  refine va_gets hx hb h2 va_S.rf hown (hts _ wk_f_cs) (fun _ h => h) ds_coder_0 ?_
  refine lv_if_eq (tgt := 13) hx hb ds_coder_3 (by decide) (fun h => absurd h (by decide)) (fun _ => ?_)
  refine lv_aload_n hx hb ds_coder_6 rfl (lv_at hl 0 rfl) ?_
  refine vk_getf hx hb (h1.1 i hi).2.1 va_S.rf hown (hts _ wk_f_coder) (fun _ h => h) ds_coder_7 ?_
  refine lv_goto (tgt := 14) hx hb ds_coder_10 (by decide) ?_
  exact W.zret (ty := .byte) hx hb hr (by decide) (fun t ht _ => ⟨0, rfl, rfl, ht⟩) (fun q hq => by cases hq) ds_coder_14
set_option maxHeartbeats 1000000 in
theorem m_length {i : Nat} (hi : i < 2) : Met l ys_length (cs_length :: zTB) (zRq 1) (va_Pc [.ref (adK i)] (zSB adK adV A)) (vp_Si (fun r => r = nI (zlenS.getD i 0))) 0 0 (fun _ => False) := by
  refine Met.ofW (cc := prog_21_method_54_code) (maxL := 1) (ret := some .int) (by decide) rfl ?_
  intro p e s m args below meth c s₁ B hml hv
  obtain ⟨rfl, hE⟩ := hv
  have hx := B.exec
  have hb := B.bytes
  have hr := B.returns
  have hts : ∀ w ∈ zTB, w.before ([Value.ref (adK i)] : List Value).toArray s = true := fun w hw => atoms_spec (ws := cs_length :: zTB) B.pre w (List.mem_cons_of_mem _ hw)
  have hown : s.vm.findClass "java/lang/String" = some m.cls := findClass_of_methodNamed B.named
  have hlocks := B.notSynchronized
  have hl := lv_entry ([.ref (adK i)]) (n := 1) (Nat.le_of_ble_eq_true rfl)
  rw [lg_entry_eq]
  generalize (lg_sl ([.ref (adK i)]) ++ List.replicate (1 - (lg_sl ([.ref (adK i)])).length) Slot.unset).toArray = ls at hl ⊢
  have hl : lv_has ls 1 [(0, .ref (adK i))] := hl
  obtain ⟨h1, h2, h3, -⟩ := id hE
  refine lv_aload_n hx hb ds_length_0 rfl (lv_at hl 0 rfl) ?_
  refine vk_getf hx hb (h1.1 i hi).2.2.1 va_S.rf hown (hts _ wk_f_value) (fun _ h => h) ds_length_1 ?_
  refine va_tlen hx hb (h1.1 i hi).2.2.2 va_S.rf (v := nI (zlenS.getD i 0)) rfl ds_length_4 ?_
  refine lv_aload_n hx hb ds_length_5 rfl (lv_at hl 0 rfl) ?_
  refine zsV (k := 0) (As := []) (rest := [.int (nI (zlenS.getD i 0))]) ⟨hx, hb, hml, hown, hts⟩ (m_coder l adK adV A hi) ws_coder wk_l_coder wk_i_coder wk_s_coder wk_in_S ⟨by decide, by decide, by decide +kernel⟩ rfl ⟨by decide, by decide⟩ (vk_recv h1 hi va_S.rf) (fun U hU hW => zSwm hE hU hW) zSbl hl.1 (Nat.le_of_ble_eq_true rfl) ds_length_6 (Nat.zero_le _) (Nat.zero_le _) (fun v st₀ t h0 hQ => ?_)
  obtain ⟨r, e1, e2, e3⟩ := hQ
  cases e1
  subst e2
  rw [e3, h0]
  refine lv_ishr hx hb ds_length_9 ?_
  refine W.iret hx hb hr (fun t ht _ => ⟨_, rfl, ?_, ht⟩) (fun q hq => by cases hq) ds_length_10
  exact sb_shr0 _
set_option maxHeartbeats 1000000 in
theorem m_isLatin1 {i : Nat} (hi : i < 2) : Met l ys_isLatin1 (cs_isLatin1 :: zTB) (zRq 0) (va_Pc [.ref (adK i)] (zSB adK adV A)) (vp_Si (fun r => r = 1)) 0 0 (fun _ => False) := by
  refine Met.ofW (cc := prog_21_method_154_code) (maxL := 1) (ret := some .boolean) (by decide) rfl ?_
  intro p e s m args below meth c s₁ B hml hv
  obtain ⟨rfl, hE⟩ := hv
  have hx := B.exec
  have hb := B.bytes
  have hr := B.returns
  have hts : ∀ w ∈ zTB, w.before ([Value.ref (adK i)] : List Value).toArray s = true := fun w hw => atoms_spec (ws := cs_isLatin1 :: zTB) B.pre w (List.mem_cons_of_mem _ hw)
  have hown : s.vm.findClass "java/lang/String" = some m.cls := findClass_of_methodNamed B.named
  have hlocks := B.notSynchronized
  have hl := lv_entry ([.ref (adK i)]) (n := 1) (Nat.le_of_ble_eq_true rfl)
  rw [lg_entry_eq]
  generalize (lg_sl ([.ref (adK i)]) ++ List.replicate (1 - (lg_sl ([.ref (adK i)])).length) Slot.unset).toArray = ls at hl ⊢
  have hl : lv_has ls 1 [(0, .ref (adK i))] := hl
  obtain ⟨h1, h2, h3, -⟩ := hE
  refine va_gets hx hb h2 va_S.rf hown (hts _ wk_f_cs) (fun _ h => h) ds_isLatin1_0 ?_
  refine lv_if_eq (tgt := 17) hx hb ds_isLatin1_3 (by decide) (fun h => absurd h (by decide)) (fun _ => ?_)
  refine lv_aload_n hx hb ds_isLatin1_6 rfl (lv_at hl 0 rfl) ?_
  refine vk_getf hx hb (h1.1 i hi).2.1 va_S.rf hown (hts _ wk_f_coder) (fun _ h => h) ds_isLatin1_7 ?_
  refine lv_if_ne (tgt := 17) hx hb ds_isLatin1_10 (by decide) (fun h => absurd rfl h) (fun _ => ?_)
  refine lv_iconst (v := 1) hx hb ds_isLatin1_13 (by decide) ?_
  refine lv_goto (tgt := 18) hx hb ds_isLatin1_14 (by decide) ?_
  exact W.zret (ty := .boolean) hx hb hr (by decide) (fun t ht _ => ⟨1, rfl, rfl, ht⟩) (fun q hq => by cases hq) ds_isLatin1_18
set_option maxHeartbeats 1000000 in
theorem m_pcheck {i n : Int32} {f : Value} (hf : f = .null ∨ ∃ t, f = .ref t) (h0 : ¬ i < 0) (h1 : i < n) : Met l ys_pcheck (cs_pcheck :: zTB) (zRq 0) (va_Pc [.int i, .int n, f] (zSB adK adV A)) (vp_Si (fun r => r = i)) 0 0 (fun _ => False) := by
  refine Met.ofW (cc := prog_29_method_11_code) (maxL := 3) (ret := some .int) (by decide) rfl ?_
  intro p e s m args below meth c s₁ B hml hv
  obtain ⟨rfl, hE⟩ := hv
  have hx := B.exec
  have hb := B.bytes
  have hr := B.returns
  have hts : ∀ w ∈ zTB, w.before ([.int i, .int n, f] : List Value).toArray s = true := fun w hw => atoms_spec (ws := cs_pcheck :: zTB) B.pre w (List.mem_cons_of_mem _ hw)
  have hown : s.vm.findClass "jdk/internal/util/Preconditions" = some m.cls := findClass_of_methodNamed B.named
  have hlocks := B.notSynchronized
  have hfc : f.category = 1 := by rcases hf with rfl | ⟨t, rfl⟩ <;> rfl
  have hl := lv_entry ([.int i, .int n, f]) (n := 3) (by rcases hf with rfl | ⟨t, rfl⟩ <;> exact Nat.le_of_ble_eq_true rfl)
  rw [lg_entry_eq]
  generalize (lg_sl ([.int i, .int n, f]) ++ List.replicate (3 - (lg_sl ([.int i, .int n, f])).length) Slot.unset).toArray = ls at hl ⊢
  have hl : lv_has ls 3 [(0, .int i), (1, .int n), (2, f)] := hl
  refine lv_iload_n hx hb ds_pcheck_0 rfl (lv_at hl 0 rfl) ?_
  refine lv_if_lt (tgt := 9) hx hb ds_pcheck_1 (by decide) (fun h => absurd h h0) (fun _ => ?_)
  refine lv_iload_n hx hb ds_pcheck_4 rfl (lv_at hl 0 rfl) ?_
  refine lv_iload_n hx hb ds_pcheck_5 rfl (lv_at hl 1 rfl) ?_
  refine lv_icmp_lt (tgt := 16) hx hb ds_pcheck_6 (by decide) (fun _ => ?_) (fun h => absurd h1 h)
  refine lv_iload_n hx hb ds_pcheck_16 rfl (lv_at hl 0 rfl) ?_
  exact W.iret hx hb hr (fun t ht _ => ⟨i, rfl, rfl, ht⟩) (fun q hq => by cases hq) ds_pcheck_17
set_option maxHeartbeats 1000000 in
theorem m_check {i n : Int32} (h0 : ¬ i < 0) (h1 : i < n) : Met l ys_check (cs_check :: zTB) (zRq 1) (va_Pc [.int i, .int n] (zSB adK adV A)) (va_Sv (fun _ => True)) 0 0 (fun _ => False) := by
  refine Met.ofW (cc := prog_21_method_155_code) (maxL := 2) (ret := none) (by decide) rfl ?_
  intro p e s m args below meth c s₁ B hml hv
  obtain ⟨rfl, hE⟩ := hv
  have hx := B.exec
  have hb := B.bytes
  have hr := B.returns
  have hts : ∀ w ∈ zTB, w.before ([.int i, .int n] : List Value).toArray s = true := fun w hw => atoms_spec (ws := cs_check :: zTB) B.pre w (List.mem_cons_of_mem _ hw)
  have hown : s.vm.findClass "java/lang/String" = some m.cls := findClass_of_methodNamed B.named
  have hlocks := B.notSynchronized
  have hl := lv_entry ([.int i, .int n]) (n := 2) (Nat.le_of_ble_eq_true rfl)
  rw [lg_entry_eq]
  generalize (lg_sl ([.int i, .int n]) ++ List.replicate (2 - (lg_sl ([.int i, .int n])).length) Slot.unset).toArray = ls at hl ⊢
  have hl : lv_has ls 2 [(0, .int i), (1, .int n)] := hl
  obtain ⟨k1, k2, k3, -⟩ := id hE
  refine lv_iload_n hx hb ds_check_0 rfl (lv_at hl 0 rfl) ?_
  refine lv_iload_n hx hb ds_check_1 rfl (lv_at hl 1 rfl) ?_
  have go : ∀ f : Value, (f = .null ∨ ∃ t, f = .ref t) → W p l e (headSpec (cs_check :: zTB) (zRq 1)).room s m ([Value.int i, .int n] : List Value).toArray below meth c s.heap [] 0 0 (MQ below (va_Sv (fun _ => True)) ([Value.int i, .int n] : List Value).toArray s 0 0 (fun _ => False)) (F0 m 5 ls [f, .int n, .int i]) := by
    intro f hf
    refine zsS (k := 3) (As := [.int i, .int n, f]) (rest := []) ⟨hx, hb, hml, hown, hts⟩ (m_pcheck l adK adV A hf h0 h1) ws_pcheck wk_l_pcheck wk_st_pcheck wk_in_P ⟨by decide, by decide, by decide +kernel⟩ rfl ⟨by decide, by decide⟩ (fun U hU hW => zSwm hE hU hW) zSbl hl.1 (by decide) ds_check_5 (Nat.zero_le _) (Nat.zero_le _) (fun v st₀ t g0 hQ => ?_)
    obtain ⟨r, e1, e2, e3⟩ := hQ
    cases e1
    rw [e3, g0]
    refine lv_pop hx hb ds_check_8 rfl ?_
    exact W.vret hx hb hr (fun t ht _ => ⟨rfl, trivial, ht⟩) (fun q hq => by cases hq) ds_check_9
  rcases k3 with k3 | ⟨t, k3⟩
  · exact va_gets hx hb k3 va_S.rf hown (hts _ wk_f_sf) (fun _ h => h) ds_check_2 (go _ (Or.inl rfl))
  · exact va_gets hx hb k3 va_S.rf hown (hts _ wk_f_sf) (fun _ h => h) ds_check_2 (go _ (Or.inr ⟨t, rfl⟩))
set_option maxHeartbeats 1000000 in
theorem m_lcharAt {i : Nat} {k : Int32} (hi : i < 2) (hk : vp_in k (zlenS.getD i 0)) : Met l ys_lcharAt (cs_lcharAt :: zTB) (zRq 2) (va_Pc [.ref (adV i), .int k] (zSB adK adV A)) (vp_Si (fun r => r = (zbytS.getD i []).getD k.toNatClampNeg 0 &&& 255)) 0 0 (fun _ => False) := by
  have hN : zlenS.getD i 0 < 2 ^ 31 := by rcases (show i = 0 ∨ i = 1 by omega) with rfl | rfl <;> decide
  have h0 : ¬ k < 0 := fun q => hk (Or.inl q)
  have h1 : k < nI (zlenS.getD i 0) := by
    obtain ⟨j, hj, rfl⟩ := vp_in_of hk hN
    exact nI_lt hj hN
  refine Met.ofW (cc := prog_22_method_2_code) (maxL := 2) (ret := some .char) (by decide) rfl ?_
  intro p e s m args below meth c s₁ B hml hv
  obtain ⟨rfl, hE⟩ := hv
  have hx := B.exec
  have hb := B.bytes
  have hr := B.returns
  have hts : ∀ w ∈ zTB, w.before ([.ref (adV i), .int k] : List Value).toArray s = true := fun w hw => atoms_spec (ws := cs_lcharAt :: zTB) B.pre w (List.mem_cons_of_mem _ hw)
  have hown : s.vm.findClass "java/lang/StringLatin1" = some m.cls := findClass_of_methodNamed B.named
  have hlocks := B.notSynchronized
  have hl := lv_entry ([.ref (adV i), .int k]) (n := 2) (Nat.le_of_ble_eq_true rfl)
  rw [lg_entry_eq]
  generalize (lg_sl ([.ref (adV i), .int k]) ++ List.replicate (2 - (lg_sl ([.ref (adV i), .int k])).length) Slot.unset).toArray = ls at hl ⊢
  have hl : lv_has ls 2 [(0, .ref (adV i)), (1, .int k)] := hl
  obtain ⟨k1, k2, k3, -⟩ := id hE
  refine lv_iload_n hx hb ds_lcharAt_0 rfl (lv_at hl 1 rfl) ?_
  refine lv_aload_n hx hb ds_lcharAt_1 rfl (lv_at hl 0 rfl) ?_
  refine va_tlen hx hb (k1.1 i hi).2.2.2 va_S.rf (v := nI (zlenS.getD i 0)) rfl ds_lcharAt_2 ?_
  refine zsS (k := 2) (As := [.int k, .int (nI (zlenS.getD i 0))]) (rest := []) ⟨hx, hb, hml, hown, hts⟩ (m_check l adK adV A h0 h1) ws_check wk_l_check wk_st_check wk_in_S ⟨by decide, by decide, by decide +kernel⟩ rfl ⟨by decide, by decide⟩ (fun U hU hW => zSwm hE hU hW) zSbl hl.1 (by decide) ds_lcharAt_3 (Nat.zero_le _) (Nat.zero_le _) (fun v st₀ t g0 hQ => ?_)
  obtain ⟨e1, -, e3⟩ := hQ
  cases e1
  rw [e3, g0]
  refine lv_aload_n hx hb ds_lcharAt_6 rfl (lv_at hl 0 rfl) ?_
  refine lv_iload_n hx hb ds_lcharAt_7 rfl (lv_at hl 1 rfl) ?_
  refine va_tb hx hb (k1.1 i hi).2.2.2 va_S.rf hk rfl ds_lcharAt_8 ?_
  refine lv_sipush (v := 255) hx hb ds_lcharAt_9 (by decide) ?_
  refine lv_iand hx hb ds_lcharAt_12 ?_
  refine lv_i2c hx hb ds_lcharAt_13 (sc_c2 _) ?_
  exact W.zret (ty := .char) hx hb hr (sc_nar _) (fun t ht _ => ⟨_, rfl, rfl, ht⟩) (fun q hq => by cases hq) ds_lcharAt_14
set_option maxHeartbeats 1000000 in
theorem m_charAt {i : Nat} {k : Int32} (hi : i < 2) (hk : vp_in k (zlenS.getD i 0)) : Met l ys_charAt (cs_charAt :: zTB) (zRq 3) (va_Pc [.ref (adK i), .int k] (zSB adK adV A)) (vp_Si (fun r => r = (zbytS.getD i []).getD k.toNatClampNeg 0 &&& 255)) 0 0 (fun _ => False) := by
  refine Met.ofW (cc := prog_21_method_56_code) (maxL := 2) (ret := some .char) (by decide) rfl ?_
  intro p e s m args below meth c s₁ B hml hv
  obtain ⟨rfl, hE⟩ := hv
  have hx := B.exec
  have hb := B.bytes
  have hr := B.returns
  have hts : ∀ w ∈ zTB, w.before ([.ref (adK i), .int k] : List Value).toArray s = true := fun w hw => atoms_spec (ws := cs_charAt :: zTB) B.pre w (List.mem_cons_of_mem _ hw)
  have hown : s.vm.findClass "java/lang/String" = some m.cls := findClass_of_methodNamed B.named
  have hlocks := B.notSynchronized
  have hl := lv_entry ([.ref (adK i), .int k]) (n := 2) (Nat.le_of_ble_eq_true rfl)
  rw [lg_entry_eq]
  generalize (lg_sl ([.ref (adK i), .int k]) ++ List.replicate (2 - (lg_sl ([.ref (adK i), .int k])).length) Slot.unset).toArray = ls at hl ⊢
  have hl : lv_has ls 2 [(0, .ref (adK i)), (1, .int k)] := hl
  obtain ⟨k1, k2, k3, -⟩ := id hE
  refine lv_aload_n hx hb ds_charAt_0 rfl (lv_at hl 0 rfl) ?_
  refine zsV (k := 0) (As := []) (rest := []) ⟨hx, hb, hml, hown, hts⟩ (m_isLatin1 l adK adV A hi) ws_isLatin1 wk_l_latin wk_i_isLatin1 wk_s_isLatin1 wk_in_S ⟨by decide, by decide, by decide +kernel⟩ rfl ⟨by decide, by decide⟩ (vk_recv k1 hi va_S.rf) (fun U hU hW => zSwm hE hU hW) zSbl hl.1 (by decide) ds_charAt_1 (Nat.zero_le _) (Nat.zero_le _) (fun v st₀ t g0 hQ => ?_)
  obtain ⟨r, e1, e2, e3⟩ := hQ
  cases e1
  subst e2
  rw [e3, g0]
  refine lv_if_eq (tgt := 16) hx hb ds_charAt_4 (by decide) (fun h => absurd h (by decide)) (fun _ => ?_)
  refine lv_aload_n hx hb ds_charAt_7 rfl (lv_at hl 0 rfl) ?_
  refine vk_getf hx hb (k1.1 i hi).2.2.1 va_S.rf hown (hts _ wk_f_value) (fun _ h => h) ds_charAt_8 ?_
  refine lv_iload_n hx hb ds_charAt_11 rfl (lv_at hl 1 rfl) ?_
  refine zsS (k := 2) (As := [.ref (adV i), .int k]) (rest := []) ⟨hx, hb, hml, hown, hts⟩ (m_lcharAt l adK adV A hi hk) ws_lcharAt wk_l_lchar wk_st_lcharAt wk_in_L ⟨by decide, by decide, by decide +kernel⟩ rfl ⟨by decide, by decide⟩ (fun U hU hW => zSwm hE hU hW) zSbl hl.1 (by decide) ds_charAt_12 (Nat.zero_le _) (Nat.zero_le _) (fun v st₀ t g0 hQ => ?_)
  obtain ⟨r, e1, e2, e3⟩ := hQ
  cases e1
  rw [e3, g0]
  refine W.zret (ty := .char) hx hb hr ?_ (fun t ht _ => ⟨r, rfl, e2, ht⟩) (fun q hq => by cases hq) ds_charAt_15
  rw [e2]
  exact sc_nar _
end ZU
theorem zwds_255 : ∀ b ∈ zwds, b &&& 255 = b := by decide +kernel
theorem zca_str : ∀ q ∈ zcaT, (q.2.2.1 = 1000 ∨ q.2.2.1 = 1001) → q.2.2.2.2.1 = 2 → (q.1 = 10 ∨ q.1 = 7) ∧ ((q.2.2.1 = 1000 ∧ q.2.2.2.1 = 0) ∨ (q.2.2.1 = 1001 ∧ q.2.2.2.1 = 1)) := by decide +kernel
set_option maxHeartbeats 1000000 in
/-- length and charAt of the words are the machine's -/
theorem zstr_ok (l : Launch) {D : va_G} {cy ad adK adV : Nat → Nat} {x0 x1 : Nat → Int32} (had : ad 910 = adK 1) : zStr l (zES adK adV) D cy ad x0 x1 := by
  intro p e R s m args below meth c H locs cells slots QW A H0 mi pc idx n y as rest st v hp hp' lsC C hd hz hy hn hdrop has hcat hb hR hsz hce hsl hfr hlo kk
  obtain ⟨hx, hbb, hml, hown, hts, hK, hv9, hES, hA, -, hH0⟩ := id C
  obtain ⟨q, hq, q1, q2, q3, q4, q5⟩ := zca_mem hz
  obtain ⟨r1, r2⟩ := zca_str q hq (by rw [q3]; exact hy) q5
  have hc11 : mi.2.2.2.2 ≠ 11 := by rw [← q1]; omega
  have e0 := hH0 hc11
  subst e0
  have hlk := zbl hz
  have hSB : ∀ U : State, U.heap = H → s.WarmedH U.vm → zSB adK adV A U := by
    intro U hU hW
    unfold zSB
    rw [hU]
    exact (zES_ok adK adV).1 A s U H hW ((zES_ok adK adV).2.2.1 A s s.heap H hES (fun a h1 h2 => hR.2.2.1.2.1 a h1 h2))
  have hrec := vk_recv (i := 1) hES.1 (by decide) hR.2.2.1
  have hstr : ∀ k : Nat, k = n → st = (st.take k) ++ .ref 910 :: rest := fun k hk => by rw [hk, ← hdrop, List.take_append_drop]
  have hcat2 : ((rest.map (zcv ad)).map fun v => v.category).sum ≤ 8 := by rw [zcv_cats]; exact hcat
  rcases r2 with ⟨r3, r4⟩ | ⟨r3, r4⟩
  · have ey : y = 1000 := by omega
    have en : n = 0 := by omega
    subst ey
    subst en
    have est : st = .ref 910 :: rest := by rw [← hdrop]; rfl
    subst est
    have eb : zbi 1000 as hp = some (some (.int (nI zwds.length)), hp) := by rw [has]; rfl
    rw [eb] at hb
    cases hb
    have hM := m_length l adK adV A (i := 1) (by decide)
    show W p l e R s m args below meth c H locs cells slots QW (F0 m pc lsC (([] : List Value).reverse ++ .ref (ad 910) :: rest.map (zcv ad)))
    rw [had]
    refine zsV (k := 0) (d := 1) (As := []) (rest := rest.map (zcv ad)) (own := zcn mi.2.2.2.2) (cc := mi.2.1) (nL := mi.2.2.1) ⟨hx, hbb, hml, hown, hts⟩ hM ws_length hlk wk_i_length wk_s_length wk_in_S ⟨by decide, by decide, by decide +kernel⟩ rfl ⟨by omega, by omega⟩ hrec hSB zSbl hsz hcat2 hd hce hsl (fun v st₀ t g0 hQ => ?_)
    obtain ⟨r, e1, e2, e3⟩ := hQ
    cases e1
    subst e2
    rw [e3, g0]
    exact kk
  · have ey : y = 1001 := by omega
    have en : n = 1 := by omega
    subst ey
    subst en
    obtain ⟨w, est⟩ : ∃ w, st = w :: .ref 910 :: rest := by
      cases st with
      | nil => cases hdrop
      | cons w t => exact ⟨w, congrArg (fun z => w :: z) hdrop⟩
    subst est
    have has2 : as = [.ref 910, w] := has
    subst has2
    unfold zbi at hb
    rw [if_neg (by decide), if_pos rfl] at hb
    split at hb
    next k heq =>
      cases heq
      split at hb
      next hin =>
        cases hb
        have hk : vp_in k (zlenS.getD 1 0) := zin_spec hin
        have hM := m_charAt l adK adV A (i := 1) (k := k) (by decide) hk
        show W p l e R s m args below meth c H locs cells slots QW (F0 m pc lsC (([.int k] : List Value).reverse ++ .ref (ad 910) :: rest.map (zcv ad)))
        rw [had]
        refine zsV (k := 1) (d := 3) (As := [.int k]) (rest := rest.map (zcv ad)) (own := zcn mi.2.2.2.2) (cc := mi.2.1) (nL := mi.2.2.1) ⟨hx, hbb, hml, hown, hts⟩ hM ws_charAt hlk wk_i_charAt wk_s_charAt wk_in_S ⟨by decide, by decide, by decide +kernel⟩ rfl ⟨by omega, by omega⟩ hrec hSB zSbl hsz hcat2 hd hce hsl (fun v st₀ t g0 hQ => ?_)
        obtain ⟨r, e1, e2, e3⟩ := hQ
        cases e1
        rw [e3, g0]
        have e4 : r = zwds.getD k.toNatClampNeg 0 := by
          rw [e2]
          have hlt : k.toNatClampNeg < zwds.length := Nat.not_le.mp fun q => (zin_spec hin) (Or.inr q)
          show zwds.getD k.toNatClampNeg 0 &&& 255 = _
          rw [List.getD_eq_getElem?_getD, List.getElem?_eq_getElem hlt]
          exact zwds_255 _ (List.getElem_mem hlt)
        rw [e4]
        exact kk
      next => cases hb
    next => cases hb

