/-! HandsLetLaw.hand: calls the class's hand, and catches -/
section ZH
variable {l : Launch} {ES : (Nat → Prop) → State → Heap → Prop} {D : va_G} {cy : Nat → ClassId} {ad : Nat → Nat} {x0 x1 : Nat → Int32}
variable {p : Program} {e : Env} {R : Room} {s : State} {m : MethodId} {args : Array Value} {below : List Frame} {meth : Method} {c : Code} {A : Nat → Prop} {H0 : Heap} {H : Heap} {locs : List Loc} {cells slots : Nat} {QW : State → Prop} {lsC : Array Slot} {mi my : zMI} {hp : zHP} {pc : Nat} {ls : zLs} {st rest : List Value}
theorem zrunX {mc ms : Nat} {st0 : List Value} {Qa : State → Outcome → State → Prop} {XC : String → State → State → Prop} {free : Addr → Prop} (hr : vx_Run p l e R s m args below meth c H locs cells slots mc ms (F0 m pc lsC st0) rest Qa XC free)
    (kk : ∀ (v : Option Value) (st₀ t : State) (L : List Loc), st₀.heap = H → Qa st₀ (.returned v) t → (∀ q ∈ L, free q.base) → W p l e R s m args below meth c t.heap (locs ++ L) (cells + mc) (slots + ms) QW (F0 m (pc + 3) lsC (v.toList ++ rest)))
    (kx : ∀ (E : String) (ce : Cell) (q : Addr) (st₀ t : State) (L : List Loc), st₀.heap = H → XC E st₀ t → (∀ q ∈ L, free q.base) → t.heap[q]? = some ce → ce.vm = .none → s.vm.findClass E = some ce.cls → vx_W p l e R s m args below meth c t.heap (locs ++ L) (cells + mc) (slots + ms) QW (F0 m pc lsC rest) q) : W p l e R s m args below meth c H locs cells slots QW (F0 m pc lsC st0) := by
  intro T hT X
  rcases hr T hT X with ⟨v, st₀, t, T', L, h0, X', hL, e1, e2, hq, st⟩ | ⟨q, st₀, t, T', L, E, ce, h0, X', hL, e1, e2, hx, hce, hcv, hcl, st⟩
  · obtain ⟨t2, a1, b1⟩ := kk v st₀ t L h0 hq hL T' e1 X'
    exact ⟨t2, st t2 a1, b1⟩
  · obtain ⟨t2, a1, b1⟩ := kx E ce q st₀ t L h0 hx hL hce hcv hcl T' e1 X'
    exact ⟨t2, st.trans a1, b1⟩
abbrev zMl : zMI := (⟨"HandsLetLaw", "hand", "(LHandsLet;II[J)I"⟩, method_3_code, 5, some .int, 11)
def zhh : List (Nat × Nat × Nat × Nat) := [(0, 10, 13, 13), (0, 10, 17, 15)]
def zRl : Room := { frames := 21, cells := 1, slots := 6, locals := 500 }
/-- the script, seen from a callee of the law -/
def zScrL (D : va_G) (cy : Nat → ClassId) (ad : Nat → Nat) (x0 x1 : Nat → Int32) (hp : zHP) (sz : Nat) : State → Prop := fun U => ∃ L, va_X (ad 900) L x0 U U.heap ∧ ad 900 < U.heap.size ∧ ¬ va_A (zwd ad cy hp) sz (ad 900) ∧ x1 0 = nI L ∧ L < 2 ^ 31
def zBL (ES : (Nat → Prop) → State → Heap → Prop) (D : va_G) (cy : Nat → ClassId) (ad : Nat → Nat) (x0 x1 : Nat → Int32) (hp : zHP) (sz : Nat) : State → Prop := fun U => zB ES D cy ad x0 x1 hp sz U ∧ zScrL D cy ad x0 x1 hp sz U
theorem zblindL (hE : zESok ES) {sz : Nat} {av : List Value} : FrameBlind (va_Pc av (zBL ES D cy ad x0 x1 hp sz)) := by
  intro a U g mk h
  obtain ⟨h0, h1, L, q1, q2, q3⟩ := h
  have h2 := zblind hE a U g mk ⟨h0, h1⟩
  exact ⟨h2.1, h2.2, L, va_X.moved (u := U) (U := U.calling g mk a) (Vm.Alike.refl U.vm) q1, q2, q3⟩
theorem zpreL (hE : zESok ES) (C : zC ES D cy ad A H0 x0 x1 mi p s m args c) (h11 : mi.2.2.2.2 = 11) (hR : zRel D cy ad A H0 x0 x1 hp H locs) {U : State} (hU : U.heap = H) (hW : s.WarmedH U.vm) : zBL ES D cy ad x0 x1 hp H.size U := by
  refine ⟨zpre hE C hR hU hW, ?_⟩
  obtain ⟨hx, hb, hml, hown, hts, hK, hv9, hES, hA, hscr, -⟩ := C
  obtain ⟨L, q1, q2, q3, q4, q5⟩ := hscr h11
  refine ⟨L, ?_, ?_, ?_, q4, q5⟩
  · rw [hU]
    exact va_X.moved hW.alike (va_X.kept q1 (hR.2.2.1.2.1 _ q2 q3))
  · rw [hU]; exact Nat.lt_of_lt_of_le q2 hR.2.2.1.1
  · intro h
    rcases h with ⟨k, e, h⟩ | h
    · exact q3 (hR.2.1.2 k _ h)
    · exact absurd (Nat.lt_of_lt_of_le q2 hR.2.2.1.1) (Nat.not_lt.mpr h)
theorem dL0 : decode method_3_code 0 = .ok (.aload_n 3, 1) := by decide +kernel
theorem dL1 : decode method_3_code 1 = .ok (.iconst 0, 1) := by decide +kernel
theorem dL2 : decode method_3_code 2 = .ok (.aload_n 0, 1) := by decide +kernel
theorem dL3 : decode method_3_code 3 = .ok (.iload_n 1, 1) := by decide +kernel
theorem dL4 : decode method_3_code 4 = .ok (.iload_n 2, 1) := by decide +kernel
theorem dL5 : decode method_3_code 5 = .ok (.invokevirtual 7, 3) := by decide +kernel
theorem dL8 : decode method_3_code 8 = .ok (.i2l, 1) := by decide +kernel
theorem dL9 : decode method_3_code 9 = .ok (.lastore, 1) := by decide +kernel
theorem dL10 : decode method_3_code 10 = .ok (.goto 11, 3) := by decide +kernel
theorem dL13 : decode method_3_code 13 = .ok (.astore 4, 2) := by decide +kernel
theorem dL15 : decode method_3_code 15 = .ok (.iconst 1, 1) := by decide +kernel
theorem dL16 : decode method_3_code 16 = .ok (.ireturn, 1) := by decide +kernel
theorem dL17 : decode method_3_code 17 = .ok (.astore 4, 2) := by decide +kernel
theorem dL19 : decode method_3_code 19 = .ok (.iconst 2, 1) := by decide +kernel
theorem dL20 : decode method_3_code 20 = .ok (.ireturn, 1) := by decide +kernel
theorem dL21 : decode method_3_code 21 = .ok (.iconst 0, 1) := by decide +kernel
theorem dL22 : decode method_3_code 22 = .ok (.ireturn, 1) := by decide +kernel
set_option maxRecDepth 20000 in
theorem zLw9 : ∀ w ∈ [zcW zMh, Cond.methodLink "HandsLetLaw" 7 zMh.1, Cond.instanceMethod zMh.1, Cond.selects "HandsLet" zMh.1 zMh.1, Cond.initialized "HandsLet", Cond.classLink "HandsLetLaw" 13 "java/lang/IndexOutOfBoundsException", Cond.classLink "HandsLetLaw" 15 "java/util/NoSuchElementException", Cond.codeWith zMl.1 method_3_code 5 (some .int) zhh, Cond.methodLink "HandsLetLaw" 39 zMl.1, Cond.static zMl.1, Cond.initialized "HandsLetLaw"], w ∈ lw_tbl ∧ goodWord w = true := by decide +kernel
theorem zLwh {w : Cond} (h : w ∈ [zcW zMh, Cond.methodLink "HandsLetLaw" 7 zMh.1, Cond.instanceMethod zMh.1, Cond.selects "HandsLet" zMh.1 zMh.1, Cond.initialized "HandsLet", Cond.classLink "HandsLetLaw" 13 "java/lang/IndexOutOfBoundsException", Cond.classLink "HandsLetLaw" 15 "java/util/NoSuchElementException", Cond.codeWith zMl.1 method_3_code 5 (some .int) zhh, Cond.methodLink "HandsLetLaw" 39 zMl.1, Cond.static zMl.1, Cond.initialized "HandsLetLaw"]) : w ∈ zTB := zTB_in (zLw9 w h).1 (zLw9 w h).2
theorem zgoodL {w : Cond} (h : w ∈ zTB) : GoodIn zTB (w :: zTB) := by
  intro w' hw
  have h1 : w' ∈ zTB := by
    rcases List.mem_cons.mp hw with q | q
    · rw [q]; exact h
    · exact q
  exact ⟨h1, good_of_word (List.mem_filter.mp h1).2⟩
/-- the cells behind the law's hand -/
def zHq (hp : zHP) (k : Nat) (v : Int32) : zHP := (hp.1, (if k = 0 then zu hp.2.1 169 0 v.toInt64 else hp.2.1), hp.2.2)
set_option maxHeartbeats 4000000 in
theorem zLawHand (hlt : l.stackTraces = false) (hE : zESok ES) (hgo : ∀ n, zGo l (zEX ES) D cy ad x0 x1 n) {ia : Nat → Nat → Int32} {la : Nat → Nat → Int64} {pl dr : Nat} {cp cw rp : Option Nat} {a1 a2 v : Int32} {k sz : Nat} (hw : zHw (ia, la, zRA pl dr cp cw rp) a1 a2 k v) :
    vx_Met l zMl.1 (Cond.codeWith zMl.1 method_3_code 5 (some .int) zhh :: zTB) zRl (va_Pc ([Value.ref 0, .int a1, .int a2, .ref 169].map (zcv ad)) (zBL (zEX ES) D cy ad x0 x1 (ia, la, zRA pl dr cp cw rp) sz)) (zQc D cy ad x0 x1 (ia, la, zRA pl dr cp cw rp) sz (fun u hp' => u = some (.int (nI k)) ∧ hp' = zHq (ia, la, zRA pl dr cp cw rp) k v)) (fun _ _ _ => False) 1 6 (va_A (zwd ad cy (ia, la, zRA pl dr cp cw rp)) sz) := by
  refine vx_ofWH (cc := zMl.2.1) (maxL := 5) (ret := some .int) (hh := zhh) (by decide +kernel) rfl ?_
  intro p e s m args below meth c s₁ B hml hv
  obtain ⟨rfl, ⟨hsz, hP, hK, hD0, hvk, hES, h9, h91⟩, Ls, q1, q2, q3, q4, q5⟩ := hv
  have hx := B.exec
  have hb := B.bytes
  have hr := B.returns
  have hts := atoms_spec (ws := Cond.codeWith zMl.1 method_3_code 5 (some .int) zhh :: zTB) B.pre
  have hT : ∀ w ∈ zTB, w.before ([Value.ref 0, .int a1, .int a2, .ref 169].map (zcv ad)).toArray s = true := fun w hw => hts w (List.mem_cons_of_mem _ hw)
  have htab : c.exceptionTable.toList = tableOf zhh := vx_table (x := zMl.1) B (hts _ List.mem_cons_self)
  have hown : s.vm.findClass "HandsLetLaw" = some m.cls := findClass_of_methodNamed B.named
  have hlocks := B.notSynchronized
  subst hsz
  rw [lg_entry_eq]
  have hA : ∀ q, s.heap.size ≤ q → va_A (zwd ad cy (ia, la, zRA pl dr cp cw rp)) s.heap.size q := fun q h => Or.inr h
  have C : zC (zEX ES) D cy ad (va_A (zwd ad cy (ia, la, zRA pl dr cp cw rp)) s.heap.size) s.heap x0 x1 zMl p s m ([Value.ref 0, .int a1, .int a2, .ref 169].map (zcv ad)).toArray c :=
    ⟨hx, hb, hml, hown, hT, hK, hvk, hES, hA, fun _ => ⟨Ls, q1, q2, q3, q4, q5⟩, fun q => absurd rfl q⟩
  have hR : zRel D cy ad (va_A (zwd ad cy (ia, la, zRA pl dr cp cw rp)) s.heap.size) s.heap x0 x1 (ia, la, zRA pl dr cp cw rp) s.heap [] := ⟨hP, hD0.self, va_S.rf, h9, h91⟩
  have hl := zent_lr (ad := ad) (n := 5) (as := [Value.ref 0, .int a1, .int a2, .ref 169]) rfl
  have ret : ∀ (H : Heap) (locs : List Loc) (lsC : Array Slot) (pc : Nat) (hp' : zHP), hp' = zHq (ia, la, zRA pl dr cp cw rp) k v → zRel D cy ad (va_A (zwd ad cy (ia, la, zRA pl dr cp cw rp)) s.heap.size) s.heap x0 x1 hp' H locs → decode zMl.2.1 pc = .ok (.ireturn, 1) → W p l e zRl s m ([Value.ref 0, .int a1, .int a2, .ref 169].map (zcv ad)).toArray below meth c H locs 1 6 (vx_MQ below (zQc D cy ad x0 x1 (ia, la, zRA pl dr cp cw rp) s.heap.size (fun u hp' => u = some (.int (nI k)) ∧ hp' = zHq (ia, la, zRA pl dr cp cw rp) k v)) (fun _ _ _ => False) ([Value.ref 0, .int a1, .int a2, .ref 169].map (zcv ad)).toArray s 1 6 (va_A (zwd ad cy (ia, la, zRA pl dr cp cw rp)) s.heap.size)) (F0 m pc lsC [.int (nI k)]) := by
    intro H locs lsC pc hp' e1 hR hd
    exact vx_ret (W.iret hx hb hr (fun t ht _ => ⟨⟨some (.int (nI k)), hp', rfl, ⟨rfl, e1⟩, by rw [ht]; exact hR.1, hR.2.2.2.1, hR.2.2.2.2⟩, hR.2.2.1.F ht⟩) hR.2.2.1.2.2 hd)
  refine zact_ok (st := []) C dL0 rfl rfl hR hl (fun H locs lsC hR hl => ?_)
  refine zact_ok C dL1 rfl rfl hR hl (fun H locs lsC hR hl => ?_)
  refine zact_ok C dL2 rfl rfl hR hl (fun H locs lsC hR hl => ?_)
  refine zact_ok C dL3 rfl rfl hR hl (fun H locs lsC hR hl => ?_)
  refine zact_ok C dL4 rfl rfl hR hl (fun H locs lsC hR hl => ?_)
  have hMet := zHand (D := D) (cy := cy) (ad := ad) (sz := H.size) hlt hE hgo hw
  have hFix : CallFix p m c method_3_code 5 s ([Value.ref 0, .int a1, .int a2, .ref 169].map (zcv ad)).toArray zTB "HandsLetLaw" := ⟨hx, hb, hml, hown, hT⟩
  have hCB : CallB zRl s ([Value.ref 0, .int a1, .int a2, .ref 169].map (zcv ad)).toArray "HandsLetLaw" 7 zMh.1 zMh.2.1 3 (some .int) (zcW zMh :: zTB) zRh 1 6 2 := callB_of (ws' := zTB) 2 hT (zgoodL (zLwh (by simp))) rfl rfl rfl (hT _ (zLwh (by simp))) (hT _ (zLwh (by simp))) ⟨by decide, by decide, by decide +kernel⟩ ⟨by decide, by decide⟩
  have hat := zwd_at (ad := ad) (cy := cy) (hp := (ia, la, zRA pl dr cp cw rp)) (k := 0) rfl (by decide)
  rw [zcell_obj _ (by decide)] at hat
  have hrecv := va_recv hK hR.1 (zclAt (zkd 0) (by decide)) hat
  have hPre : PreV s H "HandsLet" (ad 0) (va_Pc ([Value.ref 0, .int a1, .int a2].map (zcv ad)) (zB (zEX ES) D cy ad x0 x1 (ia, la, zRA pl dr cp cw rp) H.size)) [.int a1, .int a2] := ⟨zblind (zEX_ok hE), hrecv, fun U hU hW => ⟨rfl, zpre (zEX_ok hE) C hR hU hW⟩⟩
  refine zrunX (rest := [.int 0, .ref (ad 169)]) (vx_runV (As := [.int a1, .int a2]) hFix hMet ⟨hCB, hT _ (zLwh (by simp)), hT _ (zLwh (by simp))⟩ hPre rfl rfl hl.2.1 rfl (lv_room (show 1 + (1 + 0) ≤ 8 by decide)) dL5 ⟨by decide, by decide⟩) ?_ ?_
  · intro u st₀ t L h0 hQ hL
    obtain ⟨⟨v2, hp2, e1, ⟨hk, rfl, rfl⟩, hP2, h9, h91⟩, hF⟩ := hQ
    cases e1
    have hR := zpost hA hR h0 hP2 h9 h91 hF hL
    refine zact_ok (st := [.int v, .int 0, .ref 169]) C dL8 rfl rfl hR hl (fun H locs lsC hR hl => ?_)
    refine zact_ok C dL9 rfl (by simp only [zact, zk_169.1, zk_169.2, zin_of (show vp_in 0 1 by unfold vp_in; decide), and_self, if_true]; rfl) hR hl (fun H locs lsC hR hl => ?_)
    refine zact_ok C dL10 rfl rfl hR hl (fun H locs lsC hR hl => ?_)
    refine zact_ok C dL21 rfl rfl hR hl (fun H locs lsC hR hl => ?_)
    subst hk
    exact ret H locs lsC 22 _ (by unfold zHq; rw [if_pos rfl]; rfl) hR dL22
  · intro E ce q st₀ t L h0 hX hL hce hcv hcl
    obtain ⟨hEk, hP2, hF⟩ := hX
    have hR := zpost hA hR h0 hP2 h9 h91 hF hL
    have hlk1 := hT _ (zLwh (w := Cond.classLink "HandsLetLaw" 13 "java/lang/IndexOutOfBoundsException") (by simp))
    have hlk2 := hT _ (zLwh (w := Cond.classLink "HandsLetLaw" 15 "java/util/NoSuchElementException") (by simp))
    rcases hEk with ⟨hk, rfl⟩ | ⟨hk, rfl⟩
    · refine vx_catch hown [] ⟨0, 10, 13, 13⟩ [⟨0, 10, 17, 15⟩] htab (fun z hz => nomatch hz) (by decide) (by decide) hlk1 (va_Nw.use rfl (hES.2.1 _ (by simp [zXw]))) hce hcv hcl ?_
      refine lv_astore hx hb dL13 (zlr_has hl) (by decide) rfl (fun ls2 h2 => ?_)
      refine lv_iconst hx hb dL15 rfl ?_
      subst hk
      exact ret _ _ ls2 16 _ (by unfold zHq; rw [if_neg (by omega)]) hR dL16
    · refine vx_catch hown [⟨0, 10, 13, 13⟩] ⟨0, 10, 17, 15⟩ [] htab (fun z hz => ?_) (by decide) (by decide) hlk2 (va_Nw.use rfl (hES.2.1 _ (by simp [zXw]))) hce hcv hcl ?_
      · rw [List.mem_singleton.mp hz]
        exact Or.inr ⟨by decide, "java/lang/IndexOutOfBoundsException", hlk1, hES.2.2.1⟩
      · refine lv_astore hx hb dL17 (zlr_has hl) (by decide) rfl (fun ls2 h2 => ?_)
        refine lv_iconst hx hb dL19 rfl ?_
        subst hk
        exact ret _ _ ls2 20 _ (by unfold zHq; rw [if_neg (by omega)]) hR dL20
end ZH
