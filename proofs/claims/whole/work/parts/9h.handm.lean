/-! the class's hand, which may throw, on the machine -/
section ZH
variable {l : Launch} {ES : (Nat → Prop) → State → Heap → Prop} {D : va_G} {cy : Nat → ClassId} {ad : Nat → Nat} {x0 x1 : Nat → Int32}
variable {p : Program} {e : Env} {R : Room} {s : State} {m : MethodId} {args : Array Value} {below : List Frame} {meth : Method} {c : Code} {A : Nat → Prop} {H0 : Heap} {H : Heap} {locs : List Loc} {cells slots : Nat} {QW : State → Prop} {lsC : Array Slot} {mi my : zMI} {hp : zHP} {pc : Nat} {ls : zLs} {st rest : List Value}
/-- a call of a method of the small machine, out of any frame of ours -/
theorem zcallV (hE : zESok ES) (hgo : ∀ n, zGo l ES D cy ad x0 x1 n) {d idx y k b : Nat} {K : Option Value → zHP → Prop}
    (C : zC ES D cy ad A H0 x0 x1 mi p s m args c) (hR : zRel D cy ad A H0 x0 x1 hp H locs) (hl : lsC.size = mi.2.2.1) (hfr : d + 1 ≤ R.frames) (hlo : 60 * (d + 1) + 40 ≤ R.locals) (hce : cells ≤ R.cells) (hsl : slots ≤ R.slots)
    (hmy : zmt[y]? = some my) (hy : y < 241) (hlen : (zent my.2.2.1 (.ref b :: (st.take k).reverse)).length = my.2.2.1) (h : zWM d y (.ref b :: (st.take k).reverse) hp K) (hcat : zcat rest ≤ 8)
    (hk : k ≤ st.length) (hd : decode mi.2.1 pc = .ok (.invokevirtual idx, 3)) (hz : zca mi.2.2.2.2 idx = some (y, k, 0)) (hdrop : st.drop k = .ref b :: rest) (hkb : zkd b < 11) (hcn : zcn (zkd b) = my.1.cls)
    (kk : ∀ (v : Option Value) (hp' : zHP) (H' : Heap) (locs' : List Loc), K v hp' → zRel D cy ad A H0 x0 x1 hp' H' locs' → W p l e R s m args below meth c H' locs' cells slots QW (F0 m (pc + 3) lsC ((v.toList ++ rest).map (zcv ad)))) : W p l e R s m args below meth c H locs cells slots QW (F0 m pc lsC (st.map (zcv ad))) := by
  obtain ⟨hx, hb, hml, hown, hts, hK, hv9, hES, hA, hscr, -⟩ := id C
  obtain ⟨f1, f2, f3, f4, f5, f6⟩ := zmt_facts my (List.mem_of_getElem? hmy)
  obtain ⟨my', hmy', n, hn⟩ := h
  cases hmy.symm.trans hmy'
  have hMet := zmet (sz := H.size) (hgo n) hmy hy hlen hn
  have hGood : GoodIn zTB (zcW my :: zTB) := by
    intro w hw
    have h1 : w ∈ zTB := by
      rcases List.mem_cons.mp hw with q | q
      · rw [q]; exact zcode_in hmy hy
      · exact q
    exact ⟨h1, good_of_word (List.mem_filter.mp h1).2⟩
  have hroom : (zRm d).frames + 1 ≤ R.frames ∧ 8 + (my.2.2.1 + 11) + (zRm d).locals ≤ R.locals := ⟨hfr, by show 8 + (my.2.2.1 + 11) + (60 * d + 40) ≤ R.locals; omega⟩
  have hsplit : st.map (zcv ad) = (((st.take k).reverse).map (zcv ad)).reverse ++ (st.drop k).map (zcv ad) := by
    rw [← List.map_reverse, List.reverse_reverse, ← List.map_append, List.take_append_drop]
  obtain ⟨w1, w2, w3⟩ := zca_spec hz hmy (by decide)
  obtain ⟨w4, w5⟩ : Cond.instanceMethod my.1 ∈ zTB ∧ Cond.selects my.1.cls my.1 my.1 ∈ zTB := by
    rcases w3 with ⟨q, -⟩ | ⟨-, q⟩
    · cases q
    · exact q
  have hat := zwd_at (ad := ad) (cy := cy) (hp := hp) (k := b) rfl (by omega)
  rw [zcell_obj hp hkb] at hat
  have hrecv := va_recv hK hR.1 (zclAt (zkd b) hkb) hat
  rw [show ((zcn (zkd b), zT (zkd b), zNf (zkd b)) : vw_C).1 = my.1.cls from hcn] at hrecv
  rw [hdrop] at hsplit
  have hCB : CallB R s args (zcn mi.2.2.2.2) idx my.1 my.2.1 my.2.2.1 my.2.2.2.1 (zcW my :: zTB) (zRm d) 0 0 k := callB_of (ws' := zTB) k hts hGood rfl rfl rfl (hts _ (zini_in hmy)) (hts _ w1) ⟨f5, f6, w2⟩ hroom
  have hFix : CallFix p m c mi.2.1 mi.2.2.1 s args zTB (zcn mi.2.2.2.2) := ⟨hx, hb, hml, hown, hts⟩
  have hPre : PreV s H my.1.cls (ad b) (va_Pc ((Value.ref b :: (st.take k).reverse).map (zcv ad)) (zB ES D cy ad x0 x1 hp H.size)) (((st.take k).reverse).map (zcv ad)) := ⟨zblind hE, hrecv, fun U hU hW => ⟨rfl, zpre hE C hR hU hW⟩⟩
  have hn9 : (((st.take k).reverse).map (zcv ad)).length = k := by simp; omega
  have hW9 : 2 * (F0 m pc lsC (st.map (zcv ad))).monitorRoom + ((rest.map (zcv ad)).map fun v => v.category).sum ≤ 8 := lv_room (by rw [zcv_cats]; omega)
  refine zrun (va_runV hFix hMet ⟨hCB, hts _ w4, hts _ w5⟩ hPre rfl hn9 hl hsplit hW9 hd ⟨hce, hsl⟩) ?_
  intro v st₀ t L h0 hQ hL
  obtain ⟨⟨v2, hp2, e1, hK2, hP2, h9, h91⟩, hF⟩ := hQ
  cases e1
  rw [ztoList]
  exact kk v2 hp2 _ _ hK2 (zpost hA hR h0 hP2 h9 h91 hF hL)
/-! what the throws stand on -/
def zIO : String := "java/lang/IndexOutOfBoundsException"
def zNS : String := "java/util/NoSuchElementException"
def zCh3 : List String := ["java/lang/RuntimeException", "java/lang/Exception"]
def zXw : List Cond := [.declares ⟨"java/lang/RuntimeException", "<init>", "()V"⟩, .declares ⟨"java/lang/Exception", "<init>", "()V"⟩, .declares ⟨"java/lang/Throwable", "<init>", "()V"⟩, .castable "java/lang/IndexOutOfBoundsException" "java/lang/IndexOutOfBoundsException", .castable "java/util/NoSuchElementException" "java/util/NoSuchElementException"]
def zX (A : Nat → Prop) (U : State) (H : Heap) : Prop := (∀ w ∈ zXw, va_Nw w U) ∧ va_Nc "java/util/NoSuchElementException" "java/lang/IndexOutOfBoundsException" U ∧ vx_Zq Bundle.tN "UNASSIGNED_STACK" Bundle.steD A U H ∧ vx_Zq Bundle.tN "SUPPRESSED_SENTINEL" Bundle.listD A U H
theorem zXw_w {s U : State} (hW : s.WarmedH U.vm) (h : ∀ w ∈ zXw, va_Nw w s) : ∀ w ∈ zXw, va_Nw w U := by
  unfold zXw at h ⊢
  simp only [List.mem_cons, List.not_mem_nil, or_false, forall_eq_or_imp, forall_eq] at h ⊢
  obtain ⟨h1, h2, h3, h4, h5⟩ := h
  exact ⟨va_Nw.warmD hW h1, va_Nw.warmD hW h2, va_Nw.warmD hW h3, va_Nw.warmC hW h4, va_Nw.warmC hW h5⟩
theorem zXw_t : ∀ w ∈ zXw, w.onTables = true := by decide
theorem zX_ok : zESok zX := by
  refine ⟨fun A s U H hW h => ?_, fun A U g mk a H h => ?_, fun A U H H1 h hq => ?_, fun A B U H h hAB => ?_⟩
  · exact ⟨zXw_w hW h.1, va_Nc.moved hW.alike h.2.1, vx_Zq.moved hW.alike h.2.2.1, vx_Zq.moved hW.alike h.2.2.2⟩
  · exact ⟨fun w hw => va_Nw.same (u := U) (U := U.calling g mk a) (zXw_t w hw) rfl (h.1 w hw), va_Nc.moved (u := U) (U := U.calling g mk a) (Vm.Alike.refl U.vm) h.2.1, vx_Zq.moved (u := U) (U := U.calling g mk a) (Vm.Alike.refl U.vm) h.2.2.1, vx_Zq.moved (u := U) (U := U.calling g mk a) (Vm.Alike.refl U.vm) h.2.2.2⟩
  · exact ⟨h.1, h.2.1, vx_Zq.kept h.2.2.1 hq, vx_Zq.kept h.2.2.2 hq⟩
  · exact ⟨h.1, h.2.1, vx_Zq.narrow h.2.2.1 hAB, vx_Zq.narrow h.2.2.2 hAB⟩
def zEX (ES : (Nat → Prop) → State → Heap → Prop) : (Nat → Prop) → State → Heap → Prop := fun A U H => ES A U H ∧ zX A U H
theorem zEX_ok (hE : zESok ES) : zESok (zEX ES) := by
  refine ⟨fun A s U H hW h => ⟨hE.1 _ _ _ _ hW h.1, zX_ok.1 _ _ _ _ hW h.2⟩, fun A U g mk a H h => ⟨hE.2.1 _ _ _ _ _ _ h.1, zX_ok.2.1 _ _ _ _ _ _ h.2⟩, fun A U H H1 h hq => ⟨hE.2.2.1 _ _ _ _ h.1 hq, zX_ok.2.2.1 _ _ _ _ h.2 hq⟩, fun A B U H h hAB => ⟨hE.2.2.2 _ _ _ _ h.1 hAB, zX_ok.2.2.2 _ _ _ _ h.2 hAB⟩⟩
theorem zC_ES {E2 : (Nat → Prop) → State → Heap → Prop} (hC : zC ES D cy ad A H0 x0 x1 mi p s m args c) (h : ES A s H0 → E2 A s H0) : zC E2 D cy ad A H0 x0 x1 mi p s m args c := by
  obtain ⟨h1, h2, h3, h4, h5, h6, h7, h8, h9⟩ := hC
  exact ⟨h1, h2, h3, h4, h5, h6, h7, h h8, h9⟩
theorem zEX_str (h : zStr l ES D cy ad x0 x1) : zStr l (zEX ES) D cy ad x0 x1 := by
  intro p e R s m args below meth c H locs cells slots QW A H0 mi pc idx n y as rest st v hp hp' lsC C
  exact h p e R s m args below meth c H locs cells slots QW A H0 mi pc idx n y as rest st v hp hp' lsC (zC_ES C (fun q => q.1))
end ZH
section ZH
variable {l : Launch} {ES : (Nat → Prop) → State → Heap → Prop} {D : va_G} {cy : Nat → ClassId} {ad : Nat → Nat} {x0 x1 : Nat → Int32}
variable {p : Program} {e : Env} {R : Room} {s : State} {m : MethodId} {args : Array Value} {below : List Frame} {meth : Method} {c : Code} {A : Nat → Prop} {H0 : Heap} {H : Heap} {locs : List Loc} {cells slots : Nat} {QW : State → Prop} {lsC : Array Slot} {mi my : zMI} {hp : zHP} {pc : Nat} {ls : zLs} {st rest : List Value}
theorem zS_getR {k ci j o q : Nat} (C : zC ES D cy ad A H0 x0 x1 mi p s m args c) (hd : decode mi.2.1 pc = .ok (.getfield k, 3)) (hf : zfl mi.2.2.2.2 k = some (ci, j)) (hs : zfs ci j = 3) (hk : zkd o = ci) (hq : hp.2.2 o j = some q) (hR : zRel D cy ad A H0 x0 x1 hp H locs) (hl : zlr ad mi.2.2.1 ls lsC)
    (kk : ∀ (H' : Heap) (locs' : List Loc) (lsC' : Array Slot), zRel D cy ad A H0 x0 x1 hp H' locs' → zlr ad mi.2.2.1 ls lsC' → W p l e R s m args below meth c H' locs' cells slots QW (F0 m (pc + 3) lsC' ((.ref q :: st).map (zcv ad)))) : W p l e R s m args below meth c H locs cells slots QW (F0 m pc lsC ((.ref o :: st).map (zcv ad))) :=
  zact_ok C hd rfl (by simp only [zact, hf, zget, hk, hs, hq, if_true]) hR hl kk
theorem zS_ild {a n : Nat} {i : Int32} (C : zC ES D cy ad A H0 x0 x1 mi p s m args c) (hd : decode mi.2.1 pc = .ok (.iaload, 1)) (hk : zkd a = 100) (hn : zln a = n) (hi : vp_in i n) (hR : zRel D cy ad A H0 x0 x1 hp H locs) (hl : zlr ad mi.2.2.1 ls lsC)
    (kk : ∀ (H' : Heap) (locs' : List Loc) (lsC' : Array Slot), zRel D cy ad A H0 x0 x1 hp H' locs' → zlr ad mi.2.2.1 ls lsC' → W p l e R s m args below meth c H' locs' cells slots QW (F0 m (pc + 1) lsC' ((.int (hp.1 a i.toNatClampNeg) :: st).map (zcv ad)))) : W p l e R s m args below meth c H locs cells slots QW (F0 m pc lsC ((.int i :: .ref a :: st).map (zcv ad))) :=
  zact_ok C hd rfl (by simp only [zact, hk, hn, zin_of hi, and_self, if_true]) hR hl kk
theorem zS_tsw {dflt lo hi off : Int} {offs : Array Int} {n tgt : Nat} {x : Int32} (C : zC ES D cy ad A H0 x0 x1 mi p s m args c) (hd : decode mi.2.1 pc = .ok (.tableswitch dflt lo hi offs, n)) (hz : zsw pc dflt lo hi offs x = some off) (ht : (pc : Int) + off = (tgt : Int)) (hR : zRel D cy ad A H0 x0 x1 hp H locs) (hl : zlr ad mi.2.2.1 ls lsC)
    (kk : ∀ (H' : Heap) (locs' : List Loc) (lsC' : Array Slot), zRel D cy ad A H0 x0 x1 hp H' locs' → zlr ad mi.2.2.1 ls lsC' → W p l e R s m args below meth c H' locs' cells slots QW (F0 m tgt lsC' (st.map (zcv ad)))) : W p l e R s m args below meth c H locs cells slots QW (F0 m pc lsC ((.int x :: st).map (zcv ad))) :=
  zact_ok C hd rfl (by simp only [zact, hz]; exact ztg_at ht) hR hl kk
abbrev zMh : zMI := (⟨"HandsLet", "hand", "(II)I"⟩, prog_1_method_8_code, 3, some .int, 9)
def zRh : Room := { frames := 20, cells := 1, slots := 6, locals := 400 }
def zHX (D : va_G) (cy : Nat → ClassId) (ad : Nat → Nat) (x0 x1 : Nat → Int32) (hp : zHP) (sz k : Nat) : String → State → State → Prop := fun E st t =>
  ((k = 1 ∧ E = "java/lang/IndexOutOfBoundsException") ∨ (k = 2 ∧ E = "java/util/NoSuchElementException")) ∧ va_P D vwCl (zwd ad cy hp) t.heap ∧ va_F (va_A (zwd ad cy hp) sz) st t
/-- what hand finds, case by case -/
def zHw (hp : zHP) (a1 a2 : Int32) (k : Nat) (v : Int32) : Prop := ∃ f : Int32, (∀ K : Option Value → zHP → Prop, K (some (.int f)) hp → zWM 0 80 [.ref 0, .int a1] hp K) ∧
  ((f = 0 ∧ k = 1) ∨ (f = 1 ∧ k = 2 ∧ (a2.toInt < 0 ∨ 6 < a2.toInt)) ∨
   (f = 1 ∧ k = 0 ∧ (∃ off i, (off = 43 ∧ zsw 17 96 0 6 #[43, 43, 43, 57, 67, 77, 87] a2 = some off ∧ vp_in (a1 * 3 + a2) 18 ∧ i = (a1 * 3 + a2).toNatClampNeg ∧ v = hp.1 74 i) ∨
     (∃ j : Nat, (j = 0 ∨ j = 1 ∨ j = 2) ∧ off = 57 + 10 * (j : Int) ∧ zsw 17 96 0 6 #[43, 43, 43, 57, 67, 77, 87] a2 = some off ∧ vp_in a1 6 ∧ i = a1.toNatClampNeg ∧ v = hp.1 (75 + j) i) ∨
     (off = 87 ∧ i = 0 ∧ zsw 17 96 0 6 #[43, 43, 43, 57, 67, 77, 87] a2 = some off ∧ ∀ K : Option Value → zHP → Prop, K (some (.int v)) hp → zWM 1 70 [.ref 72, .int a1] hp K))))
theorem dH0 : decode prog_1_method_8_code 0 = .ok (.aload_n 0, 1) := by decide +kernel
theorem dH1 : decode prog_1_method_8_code 1 = .ok (.iload_n 1, 1) := by decide +kernel
theorem dH2 : decode prog_1_method_8_code 2 = .ok (.invokevirtual 122, 3) := by decide +kernel
theorem dH5 : decode prog_1_method_8_code 5 = .ok (.ifCond .ne 11, 3) := by decide +kernel
theorem dH8 : decode prog_1_method_8_code 8 = .ok (.new 126, 3) := by decide +kernel
theorem dH11 : decode prog_1_method_8_code 11 = .ok (.dup, 1) := by decide +kernel
theorem dH12 : decode prog_1_method_8_code 12 = .ok (.invokespecial 128, 3) := by decide +kernel
theorem dH15 : decode prog_1_method_8_code 15 = .ok (.athrow, 1) := by decide +kernel
theorem dH16 : decode prog_1_method_8_code 16 = .ok (.iload_n 2, 1) := by decide +kernel
theorem dH17 : decode prog_1_method_8_code 17 = .ok (.tableswitch 96 0 6 #[43, 43, 43, 57, 67, 77, 87], 43) := by decide +kernel
theorem zhNot (h : ∀ x : ExceptionTableEntry, x ∈ c.exceptionTable.toList → False) (pc : Nat) : ∀ x ∈ c.exceptionTable.toList, covers x pc = false := fun x hx => (h x hx).elim
set_option maxRecDepth 20000 in
theorem zAtI : ∀ w ∈ Cond.classLink "HandsLet" 126 "java/lang/IndexOutOfBoundsException" :: Cond.initialized "java/lang/IndexOutOfBoundsException" :: vx_at0 "HandsLet" 128 "java/lang/IndexOutOfBoundsException" zCh3, vx_ot w = true ∧ (w ∈ lw_tbl ∧ goodWord w = true ∨ w ∈ zXw) := by decide +kernel
set_option maxRecDepth 20000 in
theorem zAtN : ∀ w ∈ Cond.classLink "HandsLet" 144 "java/util/NoSuchElementException" :: Cond.initialized "java/util/NoSuchElementException" :: vx_at0 "HandsLet" 146 "java/util/NoSuchElementException" zCh3, vx_ot w = true ∧ (w ∈ lw_tbl ∧ goodWord w = true ∨ w ∈ zXw) := by decide +kernel
end ZH
section ZH
variable {l : Launch} {ES : (Nat → Prop) → State → Heap → Prop} {D : va_G} {cy : Nat → ClassId} {ad : Nat → Nat} {x0 x1 : Nat → Int32}
theorem dH60 : decode prog_1_method_8_code 60 = .ok (.aload_n 0, 1) := by decide +kernel
theorem dH61 : decode prog_1_method_8_code 61 = .ok (.getfield 31, 3) := by decide +kernel
theorem dH64 : decode prog_1_method_8_code 64 = .ok (.getfield 129, 3) := by decide +kernel
theorem dH67 : decode prog_1_method_8_code 67 = .ok (.iload_n 1, 1) := by decide +kernel
theorem dH68 : decode prog_1_method_8_code 68 = .ok (.iconst 3, 1) := by decide +kernel
theorem dH69 : decode prog_1_method_8_code 69 = .ok (.imul, 1) := by decide +kernel
theorem dH70 : decode prog_1_method_8_code 70 = .ok (.iload_n 2, 1) := by decide +kernel
theorem dH71 : decode prog_1_method_8_code 71 = .ok (.iadd, 1) := by decide +kernel
theorem dH72 : decode prog_1_method_8_code 72 = .ok (.iaload, 1) := by decide +kernel
theorem dH73 : decode prog_1_method_8_code 73 = .ok (.ireturn, 1) := by decide +kernel
theorem dHa : ∀ j, j < 3 → decode prog_1_method_8_code (74 + 10 * j) = .ok (.aload_n 0, 1) ∧ decode prog_1_method_8_code (74 + 10 * j + 1) = .ok (.getfield 31, 3) ∧ decode prog_1_method_8_code (74 + 10 * j + 4) = .ok (.getfield (132 + 3 * j), 3) ∧ decode prog_1_method_8_code (74 + 10 * j + 7) = .ok (.iload_n 1, 1) ∧ decode prog_1_method_8_code (74 + 10 * j + 8) = .ok (.iaload, 1) ∧ decode prog_1_method_8_code (74 + 10 * j + 9) = .ok (.ireturn, 1) ∧ zfl 9 (132 + 3 * j) = some (8, 4 + j) ∧ zfs 8 (4 + j) = 3 ∧ zkd (75 + j) = 100 ∧ zln (75 + j) = 6 := by
  intro j hj
  have e : j = 0 ∨ j = 1 ∨ j = 2 := by omega
  rcases e with rfl | rfl | rfl <;> decide +kernel
theorem dH104 : decode prog_1_method_8_code 104 = .ok (.aload_n 0, 1) := by decide +kernel
theorem dH105 : decode prog_1_method_8_code 105 = .ok (.getfield 31, 3) := by decide +kernel
theorem dH108 : decode prog_1_method_8_code 108 = .ok (.iload_n 1, 1) := by decide +kernel
theorem dH109 : decode prog_1_method_8_code 109 = .ok (.invokevirtual 141, 3) := by decide +kernel
theorem dH112 : decode prog_1_method_8_code 112 = .ok (.ireturn, 1) := by decide +kernel
theorem dH113 : decode prog_1_method_8_code 113 = .ok (.new 144, 3) := by decide +kernel
theorem dH116 : decode prog_1_method_8_code 116 = .ok (.dup, 1) := by decide +kernel
theorem dH117 : decode prog_1_method_8_code 117 = .ok (.invokespecial 146, 3) := by decide +kernel
theorem dH120 : decode prog_1_method_8_code 120 = .ok (.athrow, 1) := by decide +kernel
set_option maxHeartbeats 4000000 in
/-- the class's hand: an answer, or one of its two exceptions -/
theorem zHand (hlt : l.stackTraces = false) (hE : zESok ES) (hgo : ∀ n, zGo l (zEX ES) D cy ad x0 x1 n) {ia : Nat → Nat → Int32} {la : Nat → Nat → Int64} {pl dr : Nat} {cp cw rp : Option Nat} {a1 a2 v : Int32} {k sz : Nat} (hw : zHw (ia, la, zRA pl dr cp cw rp) a1 a2 k v) :
    vx_Met l zMh.1 (zcW zMh :: zTB) zRh (va_Pc ([Value.ref 0, .int a1, .int a2].map (zcv ad)) (zB (zEX ES) D cy ad x0 x1 (ia, la, zRA pl dr cp cw rp) sz)) (zQc D cy ad x0 x1 (ia, la, zRA pl dr cp cw rp) sz (fun u hp' => k = 0 ∧ u = some (.int v) ∧ hp' = (ia, la, zRA pl dr cp cw rp))) (zHX D cy ad x0 x1 (ia, la, zRA pl dr cp cw rp) sz k) 1 6 (va_A (zwd ad cy (ia, la, zRA pl dr cp cw rp)) sz) := by
  refine vx_ofW (cc := zMh.2.1) (maxL := 3) (ret := some .int) (by decide +kernel) rfl ?_
  intro p e s m args below meth c s₁ B hml hnx hv
  obtain ⟨rfl, hsz, hP, hK, hD0, hvk, hES, h9, h91⟩ := hv
  have hx := B.exec
  have hb := B.bytes
  have hr := B.returns
  have hts := atoms_spec (ws := zcW zMh :: zTB) B.pre
  have hown : s.vm.findClass "HandsLet" = some m.cls := findClass_of_methodNamed B.named
  have hlocks := B.notSynchronized
  subst hsz
  rw [lg_entry_eq]
  have hA : ∀ q, s.heap.size ≤ q → va_A (zwd ad cy (ia, la, zRA pl dr cp cw rp)) s.heap.size q := fun q h => Or.inr h
  have C : zC (zEX ES) D cy ad (va_A (zwd ad cy (ia, la, zRA pl dr cp cw rp)) s.heap.size) s.heap x0 x1 zMh p s m ([Value.ref 0, .int a1, .int a2].map (zcv ad)).toArray c :=
    ⟨hx, hb, hml, hown, fun w hw => hts w (List.mem_cons_of_mem _ hw), hK, hvk, hES, hA, fun q => absurd q (by decide), fun _ => rfl⟩
  have hzw : ∀ w, w ∈ lw_tbl ∧ goodWord w = true ∨ w ∈ zXw → w.before ([Value.ref 0, .int a1, .int a2].map (zcv ad)).toArray s = true := by
    intro w h
    rcases h with h | h
    · exact hts w (List.mem_cons_of_mem _ (zTB_in h.1 h.2))
    · exact va_Nw.use (zXw_t w h) (hES.2.1 w h)
  have hR : zRel D cy ad (va_A (zwd ad cy (ia, la, zRA pl dr cp cw rp)) s.heap.size) s.heap x0 x1 (ia, la, zRA pl dr cp cw rp) s.heap [] := ⟨hP, hD0.self, va_S.rf, h9, h91⟩
  have hl := zent_lr (ad := ad) (n := 3) (as := [Value.ref 0, .int a1, .int a2]) rfl
  have thrown : ∀ (H : Heap) (locs : List Loc) (E : String), ((k = 1 ∧ E = "java/lang/IndexOutOfBoundsException") ∨ (k = 2 ∧ E = "java/util/NoSuchElementException")) → zRel D cy ad (va_A (zwd ad cy (ia, la, zRA pl dr cp cw rp)) s.heap.size) s.heap x0 x1 (ia, la, zRA pl dr cp cw rp) H locs → ∀ t : State, s.vm.Alike t.vm → H.size ≤ t.heap.size → (∀ q : Nat, q < H.size → t.heap[q]? = H[q]?) → zHX D cy ad x0 x1 (ia, la, zRA pl dr cp cw rp) s.heap.size k E s t := by
    intro H locs E hEk hR t ht h1 h2
    refine ⟨hEk, va_P.kept hR.1 (fun k q hk => h2 _ (hR.1 k q hk).lt), Nat.le_trans hR.2.2.1.1 h1, fun q q1 q2 => ?_⟩
    rw [h2 q (Nat.lt_of_lt_of_le q1 hR.2.2.1.1)]
    exact hR.2.2.1.2.1 q q1 q2
  have ret : ∀ (H : Heap) (locs : List Loc) (lsC : Array Slot) (pc : Nat), k = 0 → zRel D cy ad (va_A (zwd ad cy (ia, la, zRA pl dr cp cw rp)) s.heap.size) s.heap x0 x1 (ia, la, zRA pl dr cp cw rp) H locs → decode zMh.2.1 pc = .ok (.ireturn, 1) → W p l e zRh s m ([Value.ref 0, .int a1, .int a2].map (zcv ad)).toArray below meth c H locs 0 0 (vx_MQ below (zQc D cy ad x0 x1 (ia, la, zRA pl dr cp cw rp) s.heap.size (fun u hp' => k = 0 ∧ u = some (.int v) ∧ hp' = (ia, la, zRA pl dr cp cw rp))) (zHX D cy ad x0 x1 (ia, la, zRA pl dr cp cw rp) s.heap.size k) ([Value.ref 0, .int a1, .int a2].map (zcv ad)).toArray s 1 6 (va_A (zwd ad cy (ia, la, zRA pl dr cp cw rp)) s.heap.size)) (F0 m pc lsC [.int v]) := by
    intro H locs lsC pc hk hR hd
    refine vx_ret (W.widen (by omega) (by omega) (W.iret hx hb hr (fun t ht _ => ⟨⟨some (.int v), (ia, la, zRA pl dr cp cw rp), rfl, ⟨hk, rfl, rfl⟩, by rw [ht]; exact hR.1, hR.2.2.2.1, hR.2.2.2.2⟩, hR.2.2.1.F ht⟩) hR.2.2.1.2.2 hd))
  refine zact_ok (st := []) C dH0 rfl rfl hR hl (fun H locs lsC hR hl => ?_)
  refine zact_ok C dH1 rfl rfl hR hl (fun H locs lsC hR hl => ?_)
  obtain ⟨f, hf, hcase⟩ := hw
  refine zcallV (zEX_ok hE) hgo (d := 0) (y := 80) (k := 1) (b := 0) (rest := []) (K := fun u hp' => u = some (.int f) ∧ hp' = (ia, la, zRA pl dr cp cw rp)) C hR hl.2.1 (by decide) (by decide) (by decide) (by decide) zm_80 (by decide) rfl (hf _ ⟨rfl, rfl⟩) (by decide) (by simp) dH2 zc_9_122 rfl (by decide) rfl (fun u hp' H locs hu hR => ?_)
  obtain ⟨rfl, rfl⟩ := hu
  rcases hcase with ⟨rfl, hk⟩ | ⟨rfl, hk, h2⟩ | ⟨rfl, hk, off, i, h⟩
  · refine zact_ok C dH5 rfl rfl hR hl (fun H locs lsC hR hl => ?_)
    exact vx_throw0 (cc := prog_1_method_8_code) (pc := 8) (names := zCh3) hx hb hlt hown (by decide) (by decide) (hzw _ (zAtI _ (by simp)).2) (hzw _ (zAtI _ (by simp)).2) (fun w hw => hzw _ (zAtI _ (by simp [hw])).2) (fun w hw => (zAtI w hw).1) hES.2.2.2.1 hES.2.2.2.2 hR.2.2.1 (hl.2.1.trans hml.symm) dH8 dH11 dH12 dH15 (zhNot hnx _) (by decide) (show 0 + (13 * 3 + 42) ≤ 400 by decide) (by decide) (by decide) hlocks (thrown _ _ _ (Or.inl ⟨hk, rfl⟩) hR) hR.2.2.1.2.2 (by decide) (by decide)
  · refine zact_ok C dH5 rfl rfl hR hl (fun H locs lsC hR hl => ?_)
    refine zact_ok C dH16 rfl rfl hR hl (fun H locs lsC hR hl => ?_)
    refine zS_tsw (tgt := 113) C dH17 (if_pos h2) rfl hR hl (fun H locs lsC hR hl => ?_)
    exact vx_throw0 (cc := prog_1_method_8_code) (pc := 113) (names := zCh3) hx hb hlt hown (by decide) (by decide) (hzw _ (zAtN _ (by simp)).2) (hzw _ (zAtN _ (by simp)).2) (fun w hw => hzw _ (zAtN _ (by simp [hw])).2) (fun w hw => (zAtN w hw).1) hES.2.2.2.1 hES.2.2.2.2 hR.2.2.1 (hl.2.1.trans hml.symm) dH113 dH116 dH117 dH120 (zhNot hnx _) (by decide) (show 0 + (13 * 3 + 42) ≤ 400 by decide) (by decide) (by decide) hlocks (thrown _ _ _ (Or.inr ⟨hk, rfl⟩) hR) hR.2.2.1.2.2 (by decide) (by decide)
  · refine zact_ok C dH5 rfl rfl hR hl (fun H locs lsC hR hl => ?_)
    refine zact_ok C dH16 rfl rfl hR hl (fun H locs lsC hR hl => ?_)
    rcases h with ⟨rfl, hz, hi, rfl, rfl⟩ | ⟨j, hj, rfl, hz, hi, rfl, rfl⟩ | ⟨rfl, -, hz, hv⟩
    · refine zS_tsw (tgt := 60) C dH17 hz rfl hR hl (fun H locs lsC hR hl => ?_)
      refine zact_ok C dH60 rfl rfl hR hl (fun H locs lsC hR hl => ?_)
      refine zS_getR C dH61 zf_9_31 rfl rfl rfl hR hl (fun H locs lsC hR hl => ?_)
      refine zS_getR C dH64 zf_9_129 rfl rfl rfl hR hl (fun H locs lsC hR hl => ?_)
      refine zact_ok C dH67 rfl rfl hR hl (fun H locs lsC hR hl => ?_)
      refine zact_ok C dH68 rfl rfl hR hl (fun H locs lsC hR hl => ?_)
      refine zact_ok C dH69 rfl rfl hR hl (fun H locs lsC hR hl => ?_)
      refine zact_ok C dH70 rfl rfl hR hl (fun H locs lsC hR hl => ?_)
      refine zact_ok C dH71 rfl rfl hR hl (fun H locs lsC hR hl => ?_)
      refine zS_ild (a := 74) C dH72 rfl rfl hi hR hl (fun H locs lsC hR hl => ?_)
      exact ret H locs lsC 73 hk hR dH73
    · obtain ⟨d0, d1, d4, d7, d8, d9, w1, w2, w3, w4⟩ := dHa j (by omega)
      refine zS_tsw (tgt := 74 + 10 * j) C dH17 hz (by omega) hR hl (fun H locs lsC hR hl => ?_)
      refine zact_ok C d0 rfl rfl hR hl (fun H locs lsC hR hl => ?_)
      refine zS_getR C d1 zf_9_31 rfl rfl rfl hR hl (fun H locs lsC hR hl => ?_)
      refine zS_getR (q := 75 + j) C d4 w1 w2 rfl (by rcases hj with rfl | rfl | rfl <;> rfl) hR hl (fun H locs lsC hR hl => ?_)
      refine zact_ok C d7 rfl rfl hR hl (fun H locs lsC hR hl => ?_)
      refine zS_ild (a := 75 + j) C d8 w3 w4 hi hR hl (fun H locs lsC hR hl => ?_)
      exact ret H locs lsC (74 + 10 * j + 9) hk hR d9
    · refine zS_tsw (tgt := 104) C dH17 hz rfl hR hl (fun H locs lsC hR hl => ?_)
      refine zact_ok C dH104 rfl rfl hR hl (fun H locs lsC hR hl => ?_)
      refine zS_getR C dH105 zf_9_31 rfl rfl rfl hR hl (fun H locs lsC hR hl => ?_)
      refine zact_ok C dH108 rfl rfl hR hl (fun H locs lsC hR hl => ?_)
      refine zcallV (zEX_ok hE) hgo (d := 1) (y := 70) (k := 1) (b := 72) (rest := []) (K := fun u hp' => u = some (.int v) ∧ hp' = (ia, la, zRA pl dr cp cw rp)) C hR hl.2.1 (by decide) (by decide) (by decide) (by decide) zm_70 (by decide) rfl (hv _ ⟨rfl, rfl⟩) (by decide) (by simp) dH109 zc_9_141 rfl (by decide) rfl (fun u hp' H locs hu hR => ?_)
      obtain ⟨rfl, rfl⟩ := hu
      exact ret H locs lsC 112 hk hR dH112
end ZH
