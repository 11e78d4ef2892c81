/-! the law's call of its hand, pc 348 to 365 -/
section ZH
variable {l : Launch} {ES : (Nat → Prop) → State → Heap → Prop} {D : va_G} {cy : Nat → ClassId} {ad : Nat → Nat} {x0 x1 : Nat → Int32}
variable {p : Program} {e : Env} {R : Room} {s : State} {m : MethodId} {args : Array Value} {below : List Frame} {meth : Method} {c : Code} {A : Nat → Prop} {H0 : Heap} {H : Heap} {locs : List Loc} {cells slots : Nat} {QW : State → Prop} {lsC : Array Slot} {mi my : zMI} {hp : zHP} {pc : Nat} {ls : zLs} {st rest : List Value}
theorem zS_sld {i : Int32} (C : zC ES D cy ad A H0 x0 x1 mi p s m args c) (hd : decode mi.2.1 pc = .ok (.iaload, 1)) (hc : mi.2.2.2.2 = 11) (hi : vp_in i (hp.1 901 0).toNatClampNeg) (hR : zRel D cy ad A H0 x0 x1 hp H locs) (hl : zlr ad mi.2.2.1 ls lsC)
    (kk : ∀ (H' : Heap) (locs' : List Loc) (lsC' : Array Slot), zRel D cy ad A H0 x0 x1 hp H' locs' → zlr ad mi.2.2.1 ls lsC' → W p l e R s m args below meth c H' locs' cells slots QW (F0 m (pc + 1) lsC' ((.int (hp.1 900 i.toNatClampNeg) :: st).map (zcv ad)))) : W p l e R s m args below meth c H locs cells slots QW (F0 m pc lsC ((.int i :: .ref 900 :: st).map (zcv ad))) :=
  zact_ok C hd rfl (by simp only [zact, hc, show zkd 900 = 999 by decide +kernel, zin_of hi]; rfl) hR hl kk
abbrev zMw : zMI := (x, code, 7, some .boolean, 11)
theorem dW348 : decode code 348 = .ok (.aload_n 1, 1) := by decide +kernel
theorem dW349 : decode code 349 = .ok (.aload_n 0, 1) := by decide +kernel
theorem dW350 : decode code 350 = .ok (.iload 4, 2) := by decide +kernel
theorem dW352 : decode code 352 = .ok (.iconst 1, 1) := by decide +kernel
theorem dW353 : decode code 353 = .ok (.iadd, 1) := by decide +kernel
theorem dW354 : decode code 354 = .ok (.iaload, 1) := by decide +kernel
theorem dW355 : decode code 355 = .ok (.aload_n 0, 1) := by decide +kernel
theorem dW356 : decode code 356 = .ok (.iload 4, 2) := by decide +kernel
theorem dW358 : decode code 358 = .ok (.iconst 2, 1) := by decide +kernel
theorem dW359 : decode code 359 = .ok (.iadd, 1) := by decide +kernel
theorem dW360 : decode code 360 = .ok (.iaload, 1) := by decide +kernel
theorem dW361 : decode code 361 = .ok (.aload_n 3, 1) := by decide +kernel
theorem dW362 : decode code 362 = .ok (.invokestatic 39, 3) := by decide +kernel
set_option maxHeartbeats 4000000 in
theorem zLaw348 (hlt : l.stackTraces = false) (hE : zESok ES) (hgo : ∀ n, zGo l (zEX ES) D cy ad x0 x1 n) {ia : Nat → Nat → Int32} {la : Nat → Nat → Int64} {pl dr i L k : Nat} {cp cw rp : Option Nat} {v : Int32} {tl : zLs}
    (C : zC (zEX ES) D cy ad A H0 x0 x1 zMw p s m args c) (hR : zRel D cy ad A H0 x0 x1 (ia, la, zRA pl dr cp cw rp) H locs) (hl : zlr ad 7 (some (.ref 900) :: some (.ref 0) :: some (.ref 127) :: some (.ref 169) :: some (.int (nI i)) :: tl) lsC)
    (eL : ia 901 0 = nI L) (hL : L ≤ 384) (hi : i + 6 ≤ L) (hw : zHw (ia, la, zRA pl dr cp cw rp) (ia 900 (i + 1)) (ia 900 (i + 2)) k v)
    (hfr : 22 ≤ R.frames) (hlo : 600 ≤ R.locals) (hce : cells + 1 ≤ R.cells) (hsl : slots + 6 ≤ R.slots)
    (kk : ∀ (H' : Heap) (locs' : List Loc) (lsC' : Array Slot), zRel D cy ad A H0 x0 x1 (zHq (ia, la, zRA pl dr cp cw rp) k v) H' locs' → zlr ad 7 (some (.ref 900) :: some (.ref 0) :: some (.ref 127) :: some (.ref 169) :: some (.int (nI i)) :: tl) lsC' → W p l e R s m args below meth c H' locs' (cells + 1) (slots + 6) QW (F0 m 365 lsC' ([Value.int (nI k)].map (zcv ad)))) : W p l e R s m args below meth c H locs cells slots QW (F0 m 348 lsC []) := by
  obtain ⟨hx, hb, hml, hown, hT, hK, hv9, hES, hA, hscr, -⟩ := id C
  have eL2 : (ia 901 0).toNatClampNeg = L := by rw [eL]; exact zcln (by omega)
  have e1 : nI i + Int32.ofInt 1 = nI (i + 1) := ns i
  have e2 : nI i + Int32.ofInt 2 = nI (i + 2) := by rw [show Int32.ofInt 2 = nI 2 from rfl, nI_add]
  refine zact_ok (st := []) C dW348 rfl rfl hR hl (fun H locs lsC hR hl => ?_)
  refine zact_ok C dW349 rfl rfl hR hl (fun H locs lsC hR hl => ?_)
  refine zact_ok C dW350 rfl rfl hR hl (fun H locs lsC hR hl => ?_)
  refine zact_ok C dW352 rfl rfl hR hl (fun H locs lsC hR hl => ?_)
  refine zact_ok C dW353 rfl rfl hR hl (fun H locs lsC hR hl => ?_)
  refine zS_sld (i := nI i + Int32.ofInt 1) C dW354 rfl (by show vp_in _ (ia 901 0).toNatClampNeg; rw [e1, eL2]; exact zvi (by omega) (by omega)) hR hl (fun H locs lsC hR hl => ?_)
  refine zact_ok C dW355 rfl rfl hR hl (fun H locs lsC hR hl => ?_)
  refine zact_ok C dW356 rfl rfl hR hl (fun H locs lsC hR hl => ?_)
  refine zact_ok C dW358 rfl rfl hR hl (fun H locs lsC hR hl => ?_)
  refine zact_ok C dW359 rfl rfl hR hl (fun H locs lsC hR hl => ?_)
  refine zS_sld (i := nI i + Int32.ofInt 2) C dW360 rfl (by show vp_in _ (ia 901 0).toNatClampNeg; rw [e2, eL2]; exact zvi (by omega) (by omega)) hR hl (fun H locs lsC hR hl => ?_)
  refine zact_ok C dW361 rfl rfl hR hl (fun H locs lsC hR hl => ?_)
  rw [e1, e2, zcln (show i + 1 < 100000 by omega), zcln (show i + 2 < 100000 by omega)]
  have hMet := zLawHand (D := D) (cy := cy) (ad := ad) (sz := H.size) hlt hE hgo hw
  have hFix : CallFix p m c code 7 s args zTB "HandsLetLaw" := ⟨hx, hb, hml, hown, hT⟩
  have hG : GoodIn zTB (va_wsS "HandsLetLaw" 39 zMl.1 (Cond.codeWith zMl.1 method_3_code 5 (some .int) zhh :: zTB)) := by
    intro w hw
    have h1 : w ∈ zTB := by
      unfold va_wsS at hw
      rcases List.mem_append.mp hw with q | q
      · simp only [List.mem_cons, List.not_mem_nil, or_false] at q
        rcases q with q | q | q
        · rw [q]; exact zLwh (by simp)
        · rw [q]; exact zLwh (by simp)
        · rw [q]; exact zLwh (by simp)
      · exact (zgoodL (zLwh (by simp)) w q).1
    exact ⟨h1, good_of_word (List.mem_filter.mp h1).2⟩
  have hcw : vx_CSW R s args "HandsLetLaw" 39 zMl.1 method_3_code 5 (some .int) zhh (Cond.codeWith zMl.1 method_3_code 5 (some .int) zhh :: zTB) zRl 1 6 4 := vx_cwSW (ws' := zTB) 4 hT hG rfl rfl rfl ⟨by decide, by decide, by decide +kernel⟩ ⟨by show 21 + 1 ≤ R.frames; omega, by show 8 + (5 + 11) + 500 ≤ R.locals; omega⟩
  have hPre : PreS s H (va_Pc ([Value.ref 0, .int (ia 900 (i + 1)), .int (ia 900 (i + 2)), .ref 169].map (zcv ad)) (zBL (zEX ES) D cy ad x0 x1 (ia, la, zRA pl dr cp cw rp) H.size)) [.ref (ad 0), .int (ia 900 (i + 1)), .int (ia 900 (i + 2)), .ref (ad 169)] := ⟨zblindL (zEX_ok hE), fun U hU hW => ⟨rfl, zpreL (zEX_ok hE) C rfl hR hU hW⟩⟩
  refine zrunX (rest := []) (vx_runSX (As := [.ref (ad 0), .int (ia 900 (i + 1)), .int (ia 900 (i + 2)), .ref (ad 169)]) hFix hMet hcw hPre rfl rfl hl.2.1 rfl (lv_room (show 0 ≤ 8 by decide)) dW362 ⟨hce, hsl⟩) ?_ ?_
  · intro u st₀ t L h0 hQ hL
    obtain ⟨⟨v2, hp2, e1, ⟨rfl, rfl⟩, hP2, h9, h91⟩, hF⟩ := hQ
    cases e1
    exact kk _ _ _ (zpost hA hR h0 hP2 h9 h91 hF hL) hl
  · intro E ce q st₀ t L h0 hX hL hce hcv hcl
    exact hX.elim
end ZH
