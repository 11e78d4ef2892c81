/-! what holds at the law's start -/
section LS
variable {s : State} {args : Array Value}
set_option maxRecDepth 20000 in
theorem ls_inst : ∀ c, c < 11 → Cond.instantiable (zcn c) (zNf c) ∈ lw_tbl := by decide +kernel
set_option maxRecDepth 20000 in
theorem ls_over : Cond.arrayOver (.array .int) ∈ lw_tbl := by decide +kernel
theorem ls_arr {ty : FieldType} (h : (Cond.arrayClass ty).before args s = true) : ∃ cA, ArrOfT s cA ty ∧ s.vm.findClass ("[" ++ ty.toString) = some cA := by
  obtain ⟨c, k, comp, h1, h2, h3⟩ := Cond.arrayClass_spec h
  exact ⟨c, fun n z => ⟨fun k h => (by cases h), k, h2, comp, h3⟩, h1⟩
theorem ls_K (hts : ∀ w ∈ lw_tbl, w.before args s = true) : ∃ (D : va_G) (cy : Nat → ClassId), va_K D vwCl (ztys cy) s := by
  have hT : ∀ w ∈ zTB, w.before args s = true := fun w hw => hts w (List.mem_filter.mp hw).1
  have h0 : ∀ c : Nat, ∃ q : ClassId × (Nat → Nat), ∀ v, vwCl[c]? = some v → u_Kn s v.1 v.2.1 v.2.2 q.1 q.2 := by
    intro c
    by_cases hc : c < 11
    · obtain ⟨cC, iS, h⟩ := u_known (C := zcn c) (T := zT c) (N := zNf c) (n := zNf c) hT (zuws hc) (hts _ (ls_inst c hc))
      refine ⟨(cC, iS), fun v hv => ?_⟩
      cases Option.some.inj ((zclAt c hc).symm.trans hv)
      exact h
    · refine ⟨(0, fun _ => 0), fun v hv => absurd (List.getElem?_eq_some_iff.mp hv).1 ?_⟩
      rw [show vwCl.length = 11 from rfl]
      exact hc
  obtain ⟨f, hf⟩ := Classical.axiomOfChoice h0
  obtain ⟨w0, w1, w2, w3⟩ := cArr_w
  obtain ⟨c0, a0, b0⟩ := ls_arr (hts _ w0)
  obtain ⟨c1, a1, b1⟩ := ls_arr (hts _ w1)
  obtain ⟨c2, a2, b2⟩ := ls_arr (hts _ w2)
  obtain ⟨c3, a3, b3⟩ := ls_arr (hts _ w3)
  obtain ⟨comp, c4, k4, -, -, h3, h4, b4⟩ := aoA_spec (hts _ ls_over)
  have a4 : ArrOfT s c4 (.array .int) := fun n z => ⟨fun k h => (by cases h), k4, h3, comp, h4⟩
  refine ⟨(fun c => (f c).1, fun c => (f c).2), fun k => [c0, c1, c2, c3, c4].getD k 0, fun c q hq => hf c q hq, fun k q hk => ?_⟩
  match k, hk with
  | 0, hk => cases hk; exact ⟨a0, b0⟩
  | 1, hk => cases hk; exact ⟨a1, b1⟩
  | 2, hk => cases hk; exact ⟨a2, b2⟩
  | 3, hk => cases hk; exact ⟨a3, b3⟩
  | 4, hk => cases hk; exact ⟨a4, b4⟩
  | k + 5, hk => cases hk
def lsTm (i : Nat) : Term := if i = 0 then .string "HandsLet$Tokens" 19 else .string "HandsLetModel" 194
set_option maxRecDepth 20000 in
theorem ls_f1 : ∀ i, i < 2 → Cond.exactly (lsTm i) "java/lang/String" ∈ flatC (.and given_1 narrow_1) ∧ Cond.eq (.field (lsTm i) "java/lang/String" "coder" "B") (.int 0) ∈ flatC (.and given_1 narrow_1) ∧ Cond.arrayOf (.field (lsTm i) "java/lang/String" "value" "[B") .byte ∈ flatC (.and given_1 narrow_1) ∧ Cond.eq (.length (.field (lsTm i) "java/lang/String" "value" "[B")) (.int (Int32.ofNat (zlenS.getD i 0))) ∈ flatC (.and given_1 narrow_1) := by decide +kernel
set_option maxRecDepth 20000 in
theorem ls_e0 : ((flatC (.and given_1 narrow_1)).drop 39).take 103 = (List.range 103).map (fun j => Cond.eq (.elem (.field (lsTm 0) "java/lang/String" "value" "[B") (.int (Int32.ofNat j))) (.int ((zbytS.getD 0 []).getD j 0))) := by rfl
set_option maxRecDepth 20000 in
theorem ls_e1 : ((flatC (.and given_1 narrow_1)).drop 146).take 104 = (List.range 104).map (fun j => Cond.eq (.elem (.field (lsTm 1) "java/lang/String" "value" "[B") (.int (Int32.ofNat j))) (.int ((zbytS.getD 1 []).getD j 0))) := by rfl
theorem ls_f2 : ∀ i, i < 2 → ∀ j, j < zlenS.getD i 0 → Cond.eq (.elem (.field (lsTm i) "java/lang/String" "value" "[B") (.int (Int32.ofNat j))) (.int ((zbytS.getD i []).getD j 0)) ∈ flatC (.and given_1 narrow_1) := by
  intro i hi j hj
  have e : i = 0 ∨ i = 1 := by omega
  rcases e with rfl | rfl
  · have h : Cond.eq (.elem (.field (lsTm 0) "java/lang/String" "value" "[B") (.int (Int32.ofNat j))) (.int ((zbytS.getD 0 []).getD j 0)) ∈ ((flatC (.and given_1 narrow_1)).drop 39).take 103 := by
      rw [ls_e0]
      exact List.mem_map.mpr ⟨j, List.mem_range.mpr hj, rfl⟩
    exact List.mem_of_mem_drop (List.mem_of_mem_take h)
  · have h : Cond.eq (.elem (.field (lsTm 1) "java/lang/String" "value" "[B") (.int (Int32.ofNat j))) (.int ((zbytS.getD 1 []).getD j 0)) ∈ ((flatC (.and given_1 narrow_1)).drop 146).take 104 := by
      rw [ls_e1]
      exact List.mem_map.mpr ⟨j, List.mem_range.mpr hj, rfl⟩
    exact List.mem_of_mem_drop (List.mem_of_mem_take h)
set_option maxRecDepth 20000 in
theorem ls_f3 : Cond.not (Cond.eq (lsTm 0) (lsTm 1)) ∈ flatC (.and given_1 narrow_1) ∨ Cond.not (Cond.eq (lsTm 1) (lsTm 0)) ∈ flatC (.and given_1 narrow_1) := by decide +kernel
set_option maxRecDepth 20000 in
theorem ls_f4 : Cond.eq (.static "java/lang/String" "COMPACT_STRINGS" "Z") (.int 1) ∈ flatC (.and given_1 narrow_1) ∧ Cond.isRef (.static "jdk/internal/util/Preconditions" "SIOOBE_FORMATTER" "Ljava/util/function/BiFunction;") ∈ flatC (.and given_1 narrow_1) ∧ Cond.isRef (.static "java/lang/Throwable" "UNASSIGNED_STACK" "[Ljava/lang/StackTraceElement;") ∈ flatC (.and given_1 narrow_1) ∧ Cond.isRef (.static "java/lang/Throwable" "SUPPRESSED_SENTINEL" "Ljava/util/List;") ∈ flatC (.and given_1 narrow_1) ∧ Cond.not (.castable "java/util/NoSuchElementException" "java/lang/IndexOutOfBoundsException") ∈ flatC (.and given_1 narrow_1) := by decide +kernel
set_option maxRecDepth 20000 in
theorem ls_w : ∀ w ∈ [Cond.laysStatic "java/lang/String" "COMPACT_STRINGS" "Z", .initialized "java/lang/String", .laysStatic "jdk/internal/util/Preconditions" "SIOOBE_FORMATTER" "Ljava/util/function/BiFunction;", .initialized "jdk/internal/util/Preconditions", .stringRef "HandsLet$Tokens" 19 zTX0, .stringRef "HandsLetModel" 194 zTX, .laysStatic "java/lang/Throwable" "UNASSIGNED_STACK" "[Ljava/lang/StackTraceElement;", .laysStatic "java/lang/Throwable" "SUPPRESSED_SENTINEL" "Ljava/util/List;", .initialized "java/lang/Throwable"] ++ zXw, w ∈ lw_tbl := by decide +kernel
theorem ls_ES (hts : ∀ w ∈ lw_tbl, w.before args s = true) (hgv : (Cond.and given_1 narrow_1).before args s = true) : ∃ adK adV : Nat → Nat, cES adK adV (fun q => s.heap.size ≤ q) s s.heap ∧ vk_R "HandsLetModel" 194 zTX (adK 1) s := by
  have hf := flat_of_before _ hgv
  have hA : ∀ a : Nat, a < s.heap.size → ¬ s.heap.size ≤ a := fun a h => by omega
  have hw := fun w h => hts w (ls_w w h)
  obtain ⟨adK, adV, hS, hE⟩ := vk_Sof (N := 2) (tm := lsTm) (len := zlenS) (byt := zbytS) (A := fun q => s.heap.size ≤ q) (args := args) (s := s) (by decide) (fun i hi => hf _ (ls_f1 i hi).1) (fun i hi => hf _ (ls_f1 i hi).2.1) (fun i hi => hf _ (ls_f1 i hi).2.2.1) (fun i hi => hf _ (ls_f1 i hi).2.2.2) (fun i hi j hj => hf _ (ls_f2 i hi j hj)) (fun i j hi hj hij => by
    have e : (i = 0 ∧ j = 1) ∨ (i = 1 ∧ j = 0) := by omega
    rcases e with ⟨rfl, rfl⟩ | ⟨rfl, rfl⟩ <;> rcases ls_f3 with h | h
    · exact Or.inl (hf _ h)
    · exact Or.inr (hf _ h)
    · exact Or.inr (hf _ h)
    · exact Or.inl (hf _ h)) hA
  obtain ⟨g1, g2, g3, g4, g5⟩ := ls_f4
  have hZ : zES adK adV (fun q => s.heap.size ≤ q) s s.heap := ⟨hS, va_Zof (hw _ (by simp)) (hw _ (by simp)) (va_eqt (hf _ g1)) hA, va_Zqof (hw _ (by simp)) (hw _ (by simp)) (hf _ g2) hA, vk_R.of (hw _ (by simp)) (hE 0 (by decide)), fun w h => va_Nw.of (by obtain ⟨a, i, x, q, rfl⟩ := zNest_form w h; rfl) (hts w (List.mem_append_right _ (zNest_in w h)))⟩
  refine ⟨adK, adV, ⟨⟨hZ, fun w h => va_Nw.of (zXw_t w h) (hw w (by simp [h])), va_Nc.of (hf _ g5), vx_Zqof (hw _ (by simp [Bundle.tN, Bundle.steD])) (hw _ (by simp [Bundle.tN])) (hf _ g3) hA, vx_Zqof (hw _ (by simp [Bundle.tN, Bundle.listD])) (hw _ (by simp [Bundle.tN])) (hf _ g4) hA⟩, va_AOA.of (hts _ ls_over)⟩, vk_R.of (hw _ (by simp)) (hE 1 (by decide))⟩
end LS
