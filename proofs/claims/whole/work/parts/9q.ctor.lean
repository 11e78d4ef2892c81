/-! constructors, as a function over cells -/
theorem aoA_spec {ty : FieldType} {args : Array Value} {s : State} (h : (Cond.arrayOver (.array ty)).before args s = true) :
    ∃ comp c k, s.vm.findClass (FieldType.array ty).toString = some comp ∧ (s.vm.classes.findIdx? fun (x : Class) => match x.kind with | .array component _ => component == comp | _ => false) = some c ∧ s.vm.classes[c]? = some k ∧ k.kind = .array comp (.array ty) ∧ s.vm.findClass ("[" ++ (FieldType.array ty).toString) = some c := by
  unfold Cond.before at h
  simp only [Cond.holds, Cond.value, beq_iff_eq] at h
  cases hc : s.vm.findClass (FieldType.array ty).toString with
  | none => simp [hc] at h
  | some comp =>
    simp only [hc, Option.bind_some, Option.bind_eq_some_iff, Option.map_eq_some_iff] at h
    obtain ⟨c, hi, k, hk, hb⟩ := h
    obtain ⟨hlt, hp, -⟩ := Array.findIdx?_eq_some_iff_getElem.mp hi
    have hkk : s.vm.classes[c] = k := (Array.getElem?_eq_some_iff.mp hk).2
    rw [hkk] at hp
    cases hkind : k.kind with
    | array component ty =>
      rw [hkind] at hb hp
      simp at hb hp
      exact ⟨comp, c, k, rfl, hi, hk, by rw [hkind, hp, hb.1], hb.2⟩
    | _ => rw [hkind] at hb; simp at hb
theorem va_AOA.of {ty : FieldType} {A : Array Value} {U : State} (h : (Cond.arrayOver (.array ty)).before A U = true) : va_AOA ty U := fun _ => h
theorem va_AOA.moved {ty : FieldType} {u U : State} (hvm : u.vm.Alike U.vm) (h : va_AOA ty u) : va_AOA ty U := by
  obtain ⟨comp, c, k, h1, h2, h3, h4, h5⟩ := aoA_spec (h #[])
  obtain ⟨k', hk', he⟩ := hvm.2.2 _ _ h3
  have hi : (U.vm.classes.findIdx? fun (x : Class) => match x.kind with | .array component _ => component == comp | _ => false) = some c := by
    have e1 := va_idx_bare U.vm comp
    have e2 := va_idx_bare u.vm comp
    first | rw [hvm.bare_eq] at e1 | rw [← hvm.bare_eq] at e1
    exact e1.symm.trans (e2.trans h2)
  have hkind : k'.kind = .array comp (.array ty) := by rw [he]; exact h4
  have f1 : U.vm.findClass (FieldType.array ty).toString = some comp := by rw [hvm.findClass]; exact h1
  have f2 : U.vm.findClass ("[" ++ (FieldType.array ty).toString) = some c := by rw [hvm.findClass]; exact h5
  intro A
  unfold Cond.before Cond.holds
  simp only [Cond.value]
  rw [f1, Option.bind_some]
  refine (congrArg (fun o : Option Nat => (o.bind (fun c => (U.vm.classes[c]?).map fun (k : Class) => match k.kind with | .array _ t => decide (t = FieldType.array ty) && decide (U.vm.findClass ("[" ++ (FieldType.array ty).toString) = some c) | _ => false) == some true)) hi).trans ?_
  simp [hk', hkind, f2]
/-- what constructors stand on -/
def cES (adK adV : Nat → Nat) : (Nat → Prop) → State → Heap → Prop := fun A U H => zEX (zES adK adV) A U H ∧ va_AOA .int U
theorem cES_ok (adK adV : Nat → Nat) : zESok (cES adK adV) := by
  have hE := zEX_ok (zES_ok adK adV)
  refine ⟨fun A s U H hW h => ⟨hE.1 _ _ _ _ hW h.1, va_AOA.moved hW.alike h.2⟩, fun A U g mk a H h => ⟨hE.2.1 _ _ _ _ _ _ h.1, va_AOA.moved (u := U) (U := U.calling g mk a) (Vm.Alike.refl U.vm) h.2⟩, fun A U H H1 h hq => ⟨hE.2.2.1 _ _ _ _ h.1 hq, h.2⟩, fun A B U H h hAB => ⟨hE.2.2.2 _ _ _ _ h.1 hAB, h.2⟩⟩
theorem cES_str {nn : Nat} {l : Launch} {D : va_G} {cy ad adK adV : Nat → Nat} {x0 x1 : Nat → Int32} (had : ad 910 = adK 1) : cStr nn l (cES adK adV) D cy ad x0 x1 := by
  intro p e R s m args below meth c H locs cells slots QW A H0 mi pc idx n y as rest st v hp hp' lsC C
  exact cstr_ok l had p e R s m args below meth c H locs cells slots QW A H0 mi pc idx n y as rest st v hp hp' lsC (zC_ES C (fun q => q.1.1))
def cKs : List zMI := [(⟨"HandsLet$Course", "<init>", "()V"⟩, prog_2_method_1_code, 1, none, 0), (⟨"HandsLet$Deeds", "<init>", "()V"⟩, prog_3_method_1_code, 1, none, 1), (⟨"HandsLet$Matching", "<init>", "()V"⟩, prog_4_method_1_code, 1, none, 2), (⟨"HandsLet$Plan", "<init>", "()V"⟩, prog_5_method_1_code, 1, none, 3), (⟨"HandsLet$Reader", "<init>", "()V"⟩, prog_6_method_1_code, 1, none, 4), (⟨"HandsLet$Sight", "<init>", "()V"⟩, prog_7_method_1_code, 1, none, 5), (⟨"HandsLet$Sums", "<init>", "()V"⟩, prog_8_method_1_code, 1, none, 6), (⟨"HandsLet$Tokens", "<init>", "()V"⟩, prog_9_method_1_code, 5, none, 7), (⟨"HandsLet$World", "<init>", "()V"⟩, prog_10_method_1_code, 1, none, 8), (⟨"HandsLet", "<init>", "()V"⟩, prog_1_method_1_code, 1, none, 9), (⟨"HandsLetModel", "<init>", "()V"⟩, prog_12_method_1_code, 1, none, 10)]
set_option maxRecDepth 20000 in
theorem cKs_w : ∀ q ∈ cKs, (zcW q ∈ lw_tbl ∧ goodWord (zcW q) = true) ∧ (Cond.initialized q.1.cls ∈ lw_tbl) ∧ (Cond.instanceMethod q.1 ∈ lw_tbl) := List.forall_mem_cons.mpr ⟨⟨⟨List.mem_of_getElem? (i := 460) rfl, rfl⟩, List.mem_of_getElem? (i := 126) rfl, List.mem_of_getElem? (i := 459) rfl⟩, List.forall_mem_cons.mpr ⟨⟨⟨List.mem_of_getElem? (i := 547) rfl, rfl⟩, List.mem_of_getElem? (i := 129) rfl, List.mem_of_getElem? (i := 546) rfl⟩, List.forall_mem_cons.mpr ⟨⟨⟨List.mem_of_getElem? (i := 564) rfl, rfl⟩, List.mem_of_getElem? (i := 130) rfl, List.mem_of_getElem? (i := 563) rfl⟩, List.forall_mem_cons.mpr ⟨⟨⟨List.mem_of_getElem? (i := 278) rfl, rfl⟩, List.mem_of_getElem? (i := 124) rfl, List.mem_of_getElem? (i := 277) rfl⟩, List.forall_mem_cons.mpr ⟨⟨⟨List.mem_of_getElem? (i := 152) rfl, rfl⟩, List.mem_of_getElem? (i := 118) rfl, List.mem_of_getElem? (i := 151) rfl⟩, List.forall_mem_cons.mpr ⟨⟨⟨List.mem_of_getElem? (i := 510) rfl, rfl⟩, List.mem_of_getElem? (i := 128) rfl, List.mem_of_getElem? (i := 509) rfl⟩, List.forall_mem_cons.mpr ⟨⟨⟨List.mem_of_getElem? (i := 466) rfl, rfl⟩, List.mem_of_getElem? (i := 127) rfl, List.mem_of_getElem? (i := 465) rfl⟩, List.forall_mem_cons.mpr ⟨⟨⟨List.mem_of_getElem? (i := 158) rfl, rfl⟩, List.mem_of_getElem? (i := 119) rfl, List.mem_of_getElem? (i := 157) rfl⟩, List.forall_mem_cons.mpr ⟨⟨⟨List.mem_of_getElem? (i := 370) rfl, rfl⟩, List.mem_of_getElem? (i := 125) rfl, List.mem_of_getElem? (i := 369) rfl⟩, List.forall_mem_cons.mpr ⟨⟨⟨List.mem_of_getElem? (i := 144) rfl, rfl⟩, List.mem_of_getElem? (i := 117) rfl, List.mem_of_getElem? (i := 143) rfl⟩, List.forall_mem_cons.mpr ⟨⟨⟨List.mem_of_getElem? (i := 1271) rfl, rfl⟩, List.mem_of_getElem? (i := 131) rfl, List.mem_of_getElem? (i := 1270) rfl⟩, fun _ h => absurd h List.not_mem_nil⟩⟩⟩⟩⟩⟩⟩⟩⟩⟩⟩
theorem cKs_f : ∀ q ∈ cKs, q.1.cls = zcn q.2.2.2.2 ∧ q.2.2.2.2 < 11 ∧ plainName q.1.cls = true ∧ q.2.2.1 ≤ 41 ∧ q.1.cls ≠ "java/lang/invoke/MethodHandle" ∧ q.1.cls ≠ "java/lang/invoke/VarHandle" ∧ q.1.name = "<init>" ∧ q.2.2.2.1 = none ∧ (parseMethodDescriptor q.1.desc).map (fun d => d.parameters.length) = some 0 ∧ q.1 = ⟨zcn q.2.2.2.2, "<init>", "()V"⟩ := by decide +kernel
theorem cKs_i : ∀ k, k < 11 → ∀ q, cKs[k]? = some q → q.2.2.2.2 = k := by
  intro k hk q hq
  have : ∀ k, k < 11 → (cKs[k]?).map (fun q => q.2.2.2.2) = some k := by decide +kernel
  have h := this k hk
  rw [hq] at h
  exact Option.some.inj h
theorem cKs_lt {k : Nat} {q : zMI} (h : cKs[k]? = some q) : k < 11 := (List.getElem?_eq_some_iff.mp h).1
theorem dkF_ok {ci pc : Nat} {mi : zMI} {r : Instr × Nat} (hm : cKs[ci]? = some mi) (h : dkF ci pc = some r) : decode mi.2.1 pc = .ok r := by
  have h1 := dF_s h
  unfold dkL at h1
  by_cases e0 : ci = 0
  · rw [if_pos e0] at h1
    rw [e0] at hm
    cases hm
    exact dk_0_ok (pc, r) h1
  rw [if_neg e0] at h1
  by_cases e1 : ci = 1
  · rw [if_pos e1] at h1
    rw [e1] at hm
    cases hm
    exact dk_1_ok (pc, r) h1
  rw [if_neg e1] at h1
  by_cases e2 : ci = 2
  · rw [if_pos e2] at h1
    rw [e2] at hm
    cases hm
    exact dk_2_ok (pc, r) h1
  rw [if_neg e2] at h1
  by_cases e3 : ci = 3
  · rw [if_pos e3] at h1
    rw [e3] at hm
    cases hm
    exact dk_3_ok (pc, r) h1
  rw [if_neg e3] at h1
  by_cases e4 : ci = 4
  · rw [if_pos e4] at h1
    rw [e4] at hm
    cases hm
    exact dk_4_ok (pc, r) h1
  rw [if_neg e4] at h1
  by_cases e5 : ci = 5
  · rw [if_pos e5] at h1
    rw [e5] at hm
    cases hm
    exact dk_5_ok (pc, r) h1
  rw [if_neg e5] at h1
  by_cases e6 : ci = 6
  · rw [if_pos e6] at h1
    rw [e6] at hm
    cases hm
    exact dk_6_ok (pc, r) h1
  rw [if_neg e6] at h1
  by_cases e7 : ci = 7
  · rw [if_pos e7] at h1
    rw [e7] at hm
    cases hm
    exact dk_7_ok (pc, r) h1
  rw [if_neg e7] at h1
  by_cases e8 : ci = 8
  · rw [if_pos e8] at h1
    rw [e8] at hm
    cases hm
    exact dk_8_ok (pc, r) h1
  rw [if_neg e8] at h1
  by_cases e9 : ci = 9
  · rw [if_pos e9] at h1
    rw [e9] at hm
    cases hm
    exact dk_9_ok (pc, r) h1
  rw [if_neg e9] at h1
  by_cases e10 : ci = 10
  · rw [if_pos e10] at h1
    rw [e10] at hm
    cases hm
    exact dk_10_ok (pc, r) h1
  rw [if_neg e10] at h1
  cases h1
/-- class, index, the class made -/
def cNewT : List (Nat × Nat × Nat) := [(0, 9, 6), (4, 9, 7), (9, 9, 4), (9, 18, 3), (9, 28, 8), (9, 41, 0), (9, 48, 5), (9, 55, 1), (9, 62, 2), (11, 8, 9), (11, 18, 10)]
set_option maxRecDepth 20000 in
theorem cNewT_w : ∀ q ∈ cNewT, q.2.2 < 11 ∧ (Cond.classLink (zcn q.1) q.2.1 (zcn q.2.2) ∈ lw_tbl) ∧ (Cond.instantiable (zcn q.2.2) (zNf q.2.2) ∈ lw_tbl) ∧ (Cond.initialized (zcn q.2.2) ∈ lw_tbl) := List.forall_mem_cons.mpr ⟨⟨by decide, List.mem_of_getElem? (i := 462) rfl, List.mem_of_getElem? (i := 463) rfl, List.mem_of_getElem? (i := 127) rfl⟩, List.forall_mem_cons.mpr ⟨⟨by decide, List.mem_of_getElem? (i := 154) rfl, List.mem_of_getElem? (i := 155) rfl, List.mem_of_getElem? (i := 119) rfl⟩, List.forall_mem_cons.mpr ⟨⟨by decide, List.mem_of_getElem? (i := 148) rfl, List.mem_of_getElem? (i := 149) rfl, List.mem_of_getElem? (i := 118) rfl⟩, List.forall_mem_cons.mpr ⟨⟨by decide, List.mem_of_getElem? (i := 274) rfl, List.mem_of_getElem? (i := 275) rfl, List.mem_of_getElem? (i := 124) rfl⟩, List.forall_mem_cons.mpr ⟨⟨by decide, List.mem_of_getElem? (i := 366) rfl, List.mem_of_getElem? (i := 367) rfl, List.mem_of_getElem? (i := 125) rfl⟩, List.forall_mem_cons.mpr ⟨⟨by decide, List.mem_of_getElem? (i := 456) rfl, List.mem_of_getElem? (i := 457) rfl, List.mem_of_getElem? (i := 126) rfl⟩, List.forall_mem_cons.mpr ⟨⟨by decide, List.mem_of_getElem? (i := 506) rfl, List.mem_of_getElem? (i := 507) rfl, List.mem_of_getElem? (i := 128) rfl⟩, List.forall_mem_cons.mpr ⟨⟨by decide, List.mem_of_getElem? (i := 543) rfl, List.mem_of_getElem? (i := 544) rfl, List.mem_of_getElem? (i := 129) rfl⟩, List.forall_mem_cons.mpr ⟨⟨by decide, List.mem_of_getElem? (i := 560) rfl, List.mem_of_getElem? (i := 561) rfl, List.mem_of_getElem? (i := 130) rfl⟩, List.forall_mem_cons.mpr ⟨⟨by decide, List.mem_of_getElem? (i := 140) rfl, List.mem_of_getElem? (i := 141) rfl, List.mem_of_getElem? (i := 117) rfl⟩, List.forall_mem_cons.mpr ⟨⟨by decide, List.mem_of_getElem? (i := 1267) rfl, List.mem_of_getElem? (i := 1268) rfl, List.mem_of_getElem? (i := 131) rfl⟩, fun _ h => absurd h List.not_mem_nil⟩⟩⟩⟩⟩⟩⟩⟩⟩⟩⟩
def cNew (ci idx : Nat) : Option Nat := (cNewT.find? (fun q => q.1 == ci && q.2.1 == idx)).map (fun q => q.2.2)
/-- class, index, the class whose constructor it is, by nest or not -/
def cSpT : List (Nat × Nat × Nat × Nat) := [(4, 11, 7, 0), (9, 11, 4, 1), (9, 20, 3, 1), (9, 30, 8, 1), (9, 43, 0, 1), (9, 50, 5, 1), (9, 57, 1, 1), (9, 64, 2, 1), (0, 11, 6, 1), (11, 17, 9, 0), (11, 20, 10, 0)]
set_option maxRecDepth 20000 in
theorem cSpT_w : ∀ q ∈ cSpT, q.2.2.1 < 11 ∧ ((q.2.2.2 = 0 ∧ Cond.methodLink (zcn q.1) q.2.1 ⟨zcn q.2.2.1, "<init>", "()V"⟩ ∈ lw_tbl) ∨ (q.2.2.2 = 1 ∧ Cond.methodLinkNest (zcn q.1) q.2.1 ⟨zcn q.2.2.1, "<init>", "()V"⟩ "HandsLet" ∈ zNest)) := List.forall_mem_cons.mpr ⟨⟨by decide, Or.inl ⟨rfl, List.mem_of_getElem? (i := 156) rfl⟩⟩, List.forall_mem_cons.mpr ⟨⟨by decide, Or.inr ⟨rfl, List.mem_of_getElem? (i := 0) rfl⟩⟩, List.forall_mem_cons.mpr ⟨⟨by decide, Or.inr ⟨rfl, List.mem_of_getElem? (i := 1) rfl⟩⟩, List.forall_mem_cons.mpr ⟨⟨by decide, Or.inr ⟨rfl, List.mem_of_getElem? (i := 2) rfl⟩⟩, List.forall_mem_cons.mpr ⟨⟨by decide, Or.inr ⟨rfl, List.mem_of_getElem? (i := 3) rfl⟩⟩, List.forall_mem_cons.mpr ⟨⟨by decide, Or.inr ⟨rfl, List.mem_of_getElem? (i := 5) rfl⟩⟩, List.forall_mem_cons.mpr ⟨⟨by decide, Or.inr ⟨rfl, List.mem_of_getElem? (i := 6) rfl⟩⟩, List.forall_mem_cons.mpr ⟨⟨by decide, Or.inr ⟨rfl, List.mem_of_getElem? (i := 7) rfl⟩⟩, List.forall_mem_cons.mpr ⟨⟨by decide, Or.inr ⟨rfl, List.mem_of_getElem? (i := 4) rfl⟩⟩, List.forall_mem_cons.mpr ⟨⟨by decide, Or.inl ⟨rfl, List.mem_of_getElem? (i := 142) rfl⟩⟩, List.forall_mem_cons.mpr ⟨⟨by decide, Or.inl ⟨rfl, List.mem_of_getElem? (i := 1269) rfl⟩⟩, fun _ h => absurd h List.not_mem_nil⟩⟩⟩⟩⟩⟩⟩⟩⟩⟩⟩
def cSp (ci idx : Nat) : Option (Nat × Nat) := (cSpT.find? (fun q => q.1 == ci && q.2.1 == idx)).map (fun q => q.2.2)
def cOb (ci : Nat) : Nat := if ci = 10 then 1 else 3
set_option maxRecDepth 20000 in
theorem cObj_w : ∀ k, k < 11 → Cond.methodLink (zcn k) (cOb k) objectInit ∈ lw_tbl := fun k hk => match k, hk with | 0, _ => List.mem_of_getElem? (i := 461) rfl | 1, _ => List.mem_of_getElem? (i := 548) rfl | 2, _ => List.mem_of_getElem? (i := 565) rfl | 3, _ => List.mem_of_getElem? (i := 279) rfl | 4, _ => List.mem_of_getElem? (i := 153) rfl | 5, _ => List.mem_of_getElem? (i := 511) rfl | 6, _ => List.mem_of_getElem? (i := 467) rfl | 7, _ => List.mem_of_getElem? (i := 159) rfl | 8, _ => List.mem_of_getElem? (i := 371) rfl | 9, _ => List.mem_of_getElem? (i := 145) rfl | 10, _ => List.mem_of_getElem? (i := 1272) rfl | k + 11, h => absurd h (by omega)
set_option maxRecDepth 20000 in
theorem cObj_v : Cond.instanceMethod objectInit ∈ lw_tbl ∧ Cond.code objectInit ⟨#[0xb1]⟩ 1 none ∈ lw_tbl := ⟨List.mem_of_getElem? (i := 146) rfl, List.mem_of_getElem? (i := 147) rfl⟩
set_option maxRecDepth 20000 in
theorem cMul_w : Cond.classLink (zcn 2) 15 ("[" ++ (FieldType.array .int).toString) ∈ lw_tbl ∧ Cond.classLink (zcn 3) 21 ("[" ++ (FieldType.array .int).toString) ∈ lw_tbl := by rw [show ("[" ++ (FieldType.array .int).toString) = "[[I" by decide +kernel]; exact ⟨List.mem_of_getElem? (i := 566) rfl, List.mem_of_getElem? (i := 280) rfl⟩
set_option maxRecDepth 20000 in
theorem cArr_w : Cond.arrayClass .int ∈ lw_tbl ∧ Cond.arrayClass .byte ∈ lw_tbl ∧ Cond.arrayClass .boolean ∈ lw_tbl ∧ Cond.arrayClass .long ∈ lw_tbl := ⟨List.mem_of_getElem? (i := 242) rfl, List.mem_of_getElem? (i := 241) rfl, List.mem_of_getElem? (i := 542) rfl, List.mem_of_getElem? (i := 475) rfl⟩
theorem cNew_s {ci idx k : Nat} (h : cNew ci idx = some k) : (ci, idx, k) ∈ cNewT := by
  unfold cNew at h
  obtain ⟨q, hq, e⟩ := Option.map_eq_some_iff.mp h
  have h1 := List.find?_some hq
  simp only [Bool.and_eq_true, beq_iff_eq] at h1
  obtain ⟨a, b, c⟩ := q
  cases e
  obtain ⟨rfl, rfl⟩ := h1
  exact List.mem_of_find?_eq_some hq
theorem cSp_s {ci idx : Nat} {k : Nat × Nat} (h : cSp ci idx = some k) : (ci, idx, k) ∈ cSpT := by
  unfold cSp at h
  obtain ⟨q, hq, e⟩ := Option.map_eq_some_iff.mp h
  have h1 := List.find?_some hq
  simp only [Bool.and_eq_true, beq_iff_eq] at h1
  obtain ⟨a, b, c⟩ := q
  cases e
  obtain ⟨rfl, rfl⟩ := h1
  exact List.mem_of_find?_eq_some hq
/-- sorts of new arrays -/
def cat (t : ArrayType) : Option Nat := match newarray.typeOf t with
  | .int => some 0
  | .byte => some 1
  | .boolean => some 2
  | .long => some 3
  | _ => none
/-- instructions of constructors that the small machine has not -/
def cJ (d ci nn : Nat) (i : Instr) (len : Nat) (st : List Value) (hp : zHP) : Option (List Value × Nat × zHP) := match i with
  | .new idx => match cNew ci idx with
    | some ck => if len = 3 ∧ zSH[nn]? = some (ck, zNf ck) then some (.ref nn :: st, nn + 1, hp) else none
    | none => none
  | .newarray t => match cat t, st with
    | some k, .int v :: r => if len = 2 ∧ zSH[nn]? = some (100 + k, v.toNatClampNeg) ∧ ¬ v < 0 ∧ v.toNatClampNeg ≤ 1000 then some (.ref nn :: r, nn + 1, hp) else none
    | _, _ => none
  | .multianewarray idx dims => match st with
    | .int k :: .int v :: r => if len = 4 ∧ dims = 2 ∧ ((ci = 2 ∧ idx = 15) ∨ (ci = 3 ∧ idx = 21)) ∧ ¬ v < 0 ∧ ¬ k < 0 ∧ zSH[nn]? = some (104, v.toNatClampNeg) ∧ (∀ j, j < v.toNatClampNeg → zSH[nn + 1 + j]? = some (100, k.toNatClampNeg)) ∧ nn + v.toNatClampNeg < 170 ∧ v.toNatClampNeg ≤ 1000 ∧ k.toNatClampNeg ≤ 1000 then some (.ref nn :: r, nn + (1 + v.toNatClampNeg), cRow hp nn v.toNatClampNeg) else none
    | _ => none
  | .invokespecial idx => match st with
    | .ref o :: r => if len = 3 ∧ 1 ≤ d ∧ zcat r ≤ 8 ∧ idx = cOb ci then some (r, nn, hp) else none
    | _ => none
  | .putfield idx => match st, zfl ci idx with
    | .ref q :: .ref o :: r, some (ck, j) => if len = 3 ∧ ckd nn o = ck ∧ zfnF ck j = true ∧ ck = ci ∧ zfsF ck j = 3 then some (r, nn, (hp.1, hp.2.1, zu hp.2.2 o j (some q))) else none
    | _, _ => none
  | .ldc idx => if len = 2 ∧ ci = 7 ∧ idx = 19 then some (.ref 911 :: st, nn, hp) else none
  | .invokevirtual idx => match st with
    | .ref b :: r => if len = 3 ∧ ci = 7 ∧ idx = 21 ∧ b = 911 ∧ 5 ≤ d ∧ zcat r ≤ 8 then some (.int (nI (zlenS.getD 0 0)) :: r, nn, hp) else none
    | .int k :: .ref b :: r => if len = 3 ∧ ci = 7 ∧ idx = 27 ∧ b = 911 ∧ 5 ≤ d ∧ zcat r ≤ 8 ∧ zin k (zlenS.getD 0 0) = true then some (.int ((zbytS.getD 0 []).getD k.toNatClampNeg 0 &&& 255) :: r, nn, hp) else none
    | _ => none
  | _ => none
/-- a constructor called -/
def cY (ci : Nat) (i : Instr) (len : Nat) (st : List Value) : Option (Nat × Nat × List Value) := match i with
  | .invokespecial idx => match st, cSp ci idx with
    | .ref o :: r, some q => if len = 3 ∧ zcat r ≤ 8 then some (q.1, o, r) else none
    | _, _ => none
  | _ => none
def cI : Nat → Nat → Nat → Nat → zLs → List Value → Nat → zHP → Option (Nat × zHP)
  | 0, _, _, _, _, _, _, _ => none
  | n + 1, d, ci, pc, ls, st, nn, hp =>
    match cKs[ci]? with
    | none => none
    | some mi =>
      match dkF ci pc with
      | none => none
      | some (i, len) =>
        match cactF i nn ci pc ls st hp with
        | some r => if zlen i len = true then frcS pc r.1 r.2.1 (fun pq lq => cI n d ci pq lq r.2.2.1 nn r.2.2.2) else none
        | none =>
          match cJ d ci nn i len st hp with
          | some r => frcN (pc + len) (fun pq => frcN r.2.1 (fun nq => cI n d ci pq ls r.1 nq r.2.2))
          | none =>
            match cY ci i len st with
            | some y =>
              match d, cKs[y.1]? with
              | d' + 1, some my =>
                if (zent my.2.2.1 [.ref y.2.1]).length = my.2.2.1 then
                  match cI n d' y.1 0 (zent my.2.2.1 [.ref y.2.1]) [] nn hp with
                  | some w => frcN (pc + 3) (fun pq => frcN w.1 (fun nq => cI n d ci pq ls y.2.2 nq w.2))
                  | none => none
                else none
              | _, _ => none
            | none =>
              match zrt none i st with
              | some _ => if zlen i len = true then some (nn, hp) else none
              | none =>
                match ccx nn ci i st with
                | none => none
                | some q =>
                  match d, zmt[q.1]? with
                  | d' + 1, some my =>
                    if zlen i len = true ∧ q.1 < 241 ∧ (zent my.2.2.1 q.2.1).length = my.2.2.1 then
                      match cEv nn n d' q.1 0 (zent my.2.2.1 q.2.1) [] hp with
                      | some w => frcN (pc + 3) (fun pq => cI n d ci pq ls (w.1.toList ++ q.2.2) nn w.2)
                      | none => none
                    else none
                  | _, _ => none
