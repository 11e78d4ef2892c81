/-! constructors on the machine -/
section CW
variable {l : Launch} {ES : (Nat → Prop) → State → Heap → Prop} {D : va_G} {cy : Nat → ClassId} {ad : Nat → Nat} {x0 x1 : Nat → Int32}
variable {p : Program} {e : Env} {R : Room} {s : State} {m : MethodId} {args : Array Value} {below : List Frame} {meth : Method} {c : Code} {A : Nat → Prop} {H0 : Heap} {H : Heap} {locs : List Loc} {cells slots : Nat} {QW : State → Prop} {lsC : Array Slot} {mi : zMI} {hp : zHP} {pc nn base : Nat} {ls : zLs} {st : List Value}
theorem W_size {g : JFrame} (k : H.size ≤ s.heap.size + cells → W p l e R s m args below meth c H locs cells slots QW g) : W p l e R s m args below meth c H locs cells slots QW g := by
  intro T hT X
  have h := X.heapSize
  rw [hT] at h
  exact k h T hT X
theorem cRel_lt (had : ∀ j, j < 170 → ad j = base + j) (hR : cRel nn D cy ad A H0 x0 x1 hp H locs) (h1 : 1 ≤ nn) (h2 : nn ≤ 170) : base + nn ≤ H.size := by
  obtain ⟨z, hz⟩ : ∃ z, zSH[nn - 1]? = some z := ⟨_, List.getElem?_eq_getElem (by rw [zSH_len]; omega)⟩
  have h' : ad (nn - 1) < H.size := (hR.1 (nn - 1) _ (cwd_get.mpr ⟨z, by omega, hz, rfl⟩)).lt
  rw [had _ (by omega)] at h'
  omega
def cSl (nn : Nat) : Nat := ((zSH.take nn).map (fun q => q.2)).sum
theorem cSl_s {q : Nat × Nat} (h : zSH[nn]? = some q) : cSl (nn + 1) = cSl nn + q.2 := by
  unfold cSl
  rw [List.take_add_one, h]
  simp
theorem cSl_le : ∀ a b : Nat, a ≤ b → cSl a ≤ cSl b := by
  intro a b h
  obtain ⟨k, rfl⟩ := Nat.exists_eq_add_of_le h
  induction k with
  | zero => exact Nat.le_refl _
  | succ k ih =>
    refine Nat.le_trans (ih (by omega)) ?_
    show cSl (a + k) ≤ cSl (a + k + 1)
    cases hz : zSH[a + k]? with
    | none =>
      unfold cSl
      rw [List.take_add_one, hz]
      simp
    | some q => rw [cSl_s hz]; omega
theorem cSl_m {N K' : Nat} : ∀ k : Nat, k ≤ N → zSH[nn]? = some (104, N) → (∀ j, j < N → zSH[nn + 1 + j]? = some (100, K')) → cSl (nn + 1 + k) = cSl nn + N + k * K' := by
  intro k
  induction k with
  | zero => intro _ h _; rw [Nat.add_zero, cSl_s h]; simp
  | succ k ih =>
    intro hk h h2
    rw [show nn + 1 + (k + 1) = nn + 1 + k + 1 by omega, cSl_s (h2 k (by omega)), ih (by omega) h h2]
    show _ + K' = _
    rw [Nat.succ_mul]
    omega
set_option maxHeartbeats 1000000 in
theorem c_call (hE : zESok ES) (hgo : ∀ n, cGo nn l ES D cy ad x0 x1 n) {n d idx y k : Nat} {as rest : List Value} {my : zMI} {K : Option Value → zHP → Prop}
    (C : zC ES D cy ad A H0 x0 x1 mi p s m args c) (hR : cRel nn D cy ad A H0 x0 x1 hp H locs) (hl : lsC.size = mi.2.2.1) (hfr : d + 1 ≤ R.frames) (hlo : 60 * (d + 1) + 40 ≤ R.locals) (hce : cells ≤ R.cells) (hsl : slots ≤ R.slots)
    (hmy : zmt[y]? = some my) (hy : y < 241) (hlen : (zent my.2.2.1 as).length = my.2.2.1) (h : cWn nn n d y 0 (zent my.2.2.1 as) [] hp K) (hcat : zcat rest ≤ 8)
    (hk : k ≤ st.length) (hcall : (decode mi.2.1 pc = .ok (.invokestatic idx, 3) ∧ zca mi.2.2.2.2 idx = some (y, k, 1) ∧ as = (st.take k).reverse ∧ rest = st.drop k) ∨ (decode mi.2.1 pc = .ok (.invokevirtual idx, 3) ∧ zca mi.2.2.2.2 idx = some (y, k, 0) ∧ ∃ b, as = .ref b :: (st.take k).reverse ∧ st.drop k = .ref b :: rest ∧ ckd nn b < 11 ∧ zcn (ckd nn b) = (zyOf y).cls))
    (kk : ∀ (v : Option Value) (hp' : zHP) (H' : Heap) (locs' : List Loc), K v hp' → cRel nn D cy ad A H0 x0 x1 hp' H' locs' → W p l e R s m args below meth c H' locs' cells slots QW (F0 m (pc + 3) lsC ((v.toList ++ rest).map (zcv ad)))) : W p l e R s m args below meth c H locs cells slots QW (F0 m pc lsC (st.map (zcv ad))) := by
  obtain ⟨hx, hb, hml, hown, hts, hK, hv9, hES, hA, hscr, -⟩ := id C
  obtain ⟨f1, f2, f3, f4, f5, f6⟩ := zmt_facts my (List.mem_of_getElem? hmy)
  have hMet := cmet (sz := H.size) (hgo n) hmy hy hlen h
  have hGood : GoodIn zTB (zcW my :: zTB) := zgoodC (zcode_in hmy hy)
  have hroom : (zRm d).frames + 1 ≤ R.frames ∧ 8 + (my.2.2.1 + 11) + (zRm d).locals ≤ R.locals := ⟨hfr, by show 8 + (my.2.2.1 + 11) + (60 * d + 40) ≤ R.locals; omega⟩
  have hsplit : st.map (zcv ad) = (((st.take k).reverse).map (zcv ad)).reverse ++ (st.drop k).map (zcv ad) := by
    rw [← List.map_reverse, List.reverse_reverse, ← List.map_append, List.take_append_drop]
  have hfin : ∀ (v : Option Value) (st₀ t : State) (L : List Loc), st₀.heap = H → cQc nn D cy ad x0 x1 hp H.size K (as.map (zcv ad)).toArray st₀ (.returned v) t → (∀ q ∈ L, va_A (cwd nn ad cy hp) H.size q.base) → W p l e R s m args below meth c t.heap (locs ++ L) cells slots QW (F0 m (pc + 3) lsC (v.toList ++ rest.map (zcv ad))) := by
    intro v st₀ t L h0 hQ hL
    obtain ⟨⟨v2, hp2, e1, hK2, hP2, h9, h91⟩, hF⟩ := hQ
    cases e1
    rw [ztoList]
    exact kk v2 hp2 _ _ hK2 (cpost hA hR h0 hP2 h9 h91 hF hL)
  rcases hcall with ⟨hd, hz, has, hrest⟩ | ⟨hd, hz, b, has, hdrop, hkb, hcn⟩
  · obtain ⟨w1, w2, w3⟩ := zca_spec hz hmy (by decide)
    have w4 : Cond.static my.1 ∈ zTB := by
      rcases w3 with ⟨-, q⟩ | ⟨q, -⟩
      · exact q
      · cases q
    subst hrest
    subst has
    have hCB : CallB R s args (zcn mi.2.2.2.2) idx my.1 my.2.1 my.2.2.1 my.2.2.2.1 (zcW my :: zTB) (zRm d) 0 0 k := callB_of (ws' := zTB) k hts hGood rfl rfl rfl (hts _ (zini_in hmy)) (hts _ w1) ⟨f5, f6, w2⟩ hroom
    have hFix : CallFix p m c mi.2.1 mi.2.2.1 s args zTB (zcn mi.2.2.2.2) := ⟨hx, hb, hml, hown, hts⟩
    have hPre : PreS s H (va_Pc (((st.take k).reverse).map (zcv ad)) (cB nn ES D cy ad x0 x1 hp H.size)) (((st.take k).reverse).map (zcv ad)) := ⟨cblind hE, fun U hU hW => ⟨rfl, cpre hE C hR hU hW⟩⟩
    have hn9 : (((st.take k).reverse).map (zcv ad)).length = k := by simp; omega
    have hW9 : 2 * (F0 m pc lsC (st.map (zcv ad))).monitorRoom + (((st.drop k).map (zcv ad)).map fun v => v.category).sum ≤ 8 := lv_room (by rw [zcv_cats]; omega)
    exact zrun (va_runS hFix hMet ⟨hCB, hts _ w4⟩ hPre rfl hn9 hl hsplit hW9 hd ⟨hce, hsl⟩) hfin
  · obtain ⟨w1, w2, w3⟩ := zca_spec hz hmy (by decide)
    obtain ⟨w4, w5⟩ : Cond.instanceMethod my.1 ∈ zTB ∧ Cond.selects my.1.cls my.1 my.1 ∈ zTB := by
      rcases w3 with ⟨q, -⟩ | ⟨-, q⟩
      · cases q
      · exact q
    subst has
    rw [zyOf_at hmy] at hcn
    have hat := cwd_at (nn := nn) (ad := ad) (cy := cy) (hp := hp) (k := b) rfl (by omega)
    rw [zcell_obj hp hkb] at hat
    have hrecv := va_recv hK hR.1 (zclAt (ckd nn b) hkb) hat
    rw [show ((zcn (ckd nn b), zT (ckd nn b), zNf (ckd nn b)) : vw_C).1 = my.1.cls from hcn] at hrecv
    rw [hdrop] at hsplit
    have hCB : CallB R s args (zcn mi.2.2.2.2) idx my.1 my.2.1 my.2.2.1 my.2.2.2.1 (zcW my :: zTB) (zRm d) 0 0 k := callB_of (ws' := zTB) k hts hGood rfl rfl rfl (hts _ (zini_in hmy)) (hts _ w1) ⟨f5, f6, w2⟩ hroom
    have hFix : CallFix p m c mi.2.1 mi.2.2.1 s args zTB (zcn mi.2.2.2.2) := ⟨hx, hb, hml, hown, hts⟩
    have hPre : PreV s H my.1.cls (ad b) (va_Pc ((Value.ref b :: (st.take k).reverse).map (zcv ad)) (cB nn ES D cy ad x0 x1 hp H.size)) (((st.take k).reverse).map (zcv ad)) := ⟨cblind hE, hrecv, fun U hU hW => ⟨rfl, cpre hE C hR hU hW⟩⟩
    have hn9 : (((st.take k).reverse).map (zcv ad)).length = k := by simp; omega
    have hW9 : 2 * (F0 m pc lsC (st.map (zcv ad))).monitorRoom + ((rest.map (zcv ad)).map fun v => v.category).sum ≤ 8 := lv_room (by rw [zcv_cats]; omega)
    exact zrun (va_runV hFix hMet ⟨hCB, hts _ w4, hts _ w5⟩ hPre rfl hn9 hl hsplit hW9 hd ⟨hce, hsl⟩) hfin
/-- behind a constructor: the world of more cells -/
theorem cpostI {hp2 : zHP} {n2 : Nat} {st₀ t : State} {L : List Loc} (had : ∀ j, j < 170 → ad j = base + j) (hA : ∀ q, H0.size ≤ q → A q) (hR : cRel nn D cy ad A H0 x0 x1 hp H locs) (hH : H.size = base + nn) (hn : n2 ≤ 170) (h0 : st₀.heap = H) (hP : va_P D vwCl (cwd n2 ad cy hp2) t.heap) (h9 : hp2.1 900 = x0) (h91 : hp2.1 901 = x1) (hF : va_F (va_A (cwd nn ad cy hp) H.size) st₀ t) (hL : ∀ q ∈ L, va_A (cwd nn ad cy hp) H.size q.base) : cRel n2 D cy ad A H0 x0 x1 hp2 t.heap (locs ++ L) := by
  have sub : ∀ q, va_A (cwd nn ad cy hp) H.size q → A q := by
    intro q h
    rcases h with ⟨k, e, h⟩ | h
    · exact hR.2.1.2 k _ h
    · exact hA q (Nat.le_trans hR.2.2.1.1 h)
  obtain ⟨f1, f2⟩ := hF
  rw [h0] at f1 f2
  refine ⟨hP, ⟨fun i j u v hi hj huv => ?_, fun k9 q hq => ?_⟩, ⟨Nat.le_trans hR.2.2.1.1 f1, fun q h1 h2 => ?_, fun q hq => ?_⟩, h9, h91⟩
  · obtain ⟨z, q1, -, rfl⟩ := cwd_get.mp hi
    obtain ⟨z, q2, -, rfl⟩ := cwd_get.mp hj
    have h3 : ad i = ad j := huv
    rw [had _ (by omega), had _ (by omega)] at h3
    omega
  · obtain ⟨z, hlt, hzz, rfl⟩ := cwd_get.mp hq
    show A (ad k9)
    by_cases c1 : k9 < nn
    · exact hR.2.1.2 k9 _ (cwd_get.mpr ⟨z, c1, hzz, rfl⟩)
    · refine hA _ (Nat.le_trans hR.2.2.1.1 ?_)
      rw [had _ (by omega)]; omega
  · rw [f2 q (Nat.lt_of_lt_of_le h1 hR.2.2.1.1) (fun z => h2 (sub q z))]
    exact hR.2.2.1.2.1 q h1 h2
  · rcases List.mem_append.mp hq with h | h
    · exact hR.2.2.1.2.2 q h
    · exact sub _ (hL q h)
theorem crunI {mc ms : Nat} {st0 rest : List Value} {Qa : State → Outcome → State → Prop} {free : Addr → Prop} (hr : va_Run p l e R s m args below meth c H locs cells slots mc ms (F0 m pc lsC st0) rest Qa free)
    (kk : ∀ (v : Option Value) (st₀ t : State) (L : List Loc), st₀.heap = H → Qa st₀ (.returned v) t → (∀ q ∈ L, free q.base) → W p l e R s m args below meth c t.heap (locs ++ L) (cells + mc) (slots + ms) QW (F0 m (pc + 3) lsC (v.toList ++ rest))) : W p l e R s m args below meth c H locs cells slots QW (F0 m pc lsC st0) := by
  intro T hT X
  obtain ⟨v, st₀, t, T', L, h0, X', hL, e1, e2, hq, st⟩ := hr T hT X
  obtain ⟨t2, a1, b1⟩ := kk v st₀ t L h0 hq hL T' e1 X'
  exact ⟨t2, st t2 a1, b1⟩
def cRm (d a b : Nat) : Room := { frames := d, cells := a, slots := b, locals := 60 * d + 40 }
def cQI (nn : Nat) (D : va_G) (cy : Nat → ClassId) (ad : Nat → Nat) (x0 x1 : Nat → Int32) (hp : zHP) (sz : Nat) (r : Nat × zHP) : Array Value → State → Outcome → State → Prop := fun _ st oc t =>
  (oc = .returned none ∧ va_P D vwCl (cwd r.1 ad cy r.2) t.heap ∧ r.2.1 900 = x0 ∧ r.2.1 901 = x1) ∧ va_F (va_A (cwd nn ad cy hp) sz) st t
/-- a constructor's contract -/
abbrev cMet (l : Launch) (ES : (Nat → Prop) → State → Heap → Prop) (D : va_G) (cy : Nat → ClassId) (ad : Nat → Nat) (x0 x1 : Nat → Int32) (base d nn o : Nat) (hp : zHP) (r : Nat × zHP) (my : zMI) : Prop :=
  Met l my.1 (zcW my :: zTB) (cRm d (r.1 - nn) (cSl r.1 - cSl nn)) (va_Pc [.ref (ad o)] (cB nn ES D cy ad x0 x1 hp (base + nn))) (cQI nn D cy ad x0 x1 hp (base + nn) r) (r.1 - nn) (cSl r.1 - cSl nn) (va_A (cwd nn ad cy hp) (base + nn))
theorem cin {w : Cond} (h : w ∈ lw_tbl) (g : goodWord w = true := by rfl) : w ∈ zTB := zTB_in h g
set_option maxHeartbeats 1000000 in
/-- the call of a constructor -/
theorem c_init (hE : zESok ES) (hNest : ∀ w ∈ zNest, va_Nw w s) (had : ∀ j, j < 170 → ad j = base + j) {d idx y o kd : Nat} {rest : List Value} {my : zMI} {r : Nat × zHP} {hq hp2 : zHP} {y0 y1 : Nat → Int32} (hM : cMet l ES D cy ad y0 y1 base d nn o hq r my) (hcw : cwd nn ad cy hp = cwd nn ad cy hq) (hq0 : hq.1 900 = y0) (hq1 : hq.1 901 = y1) (hcw2 : cwd r.1 ad cy r.2 = cwd r.1 ad cy hp2) (h20 : r.2.1 900 = y0 → hp2.1 900 = x0) (h21 : r.2.1 901 = y1 → hp2.1 901 = x1)
    (C : zC ES D cy ad A H0 x0 x1 mi p s m args c) (hR : cRel nn D cy ad A H0 x0 x1 hp H locs) (hH : H.size = base + nn) (hl : lsC.size = mi.2.2.1) (hfr : d + 1 ≤ R.frames) (hlo : 60 * (d + 1) + 40 ≤ R.locals) (hce : cells + (r.1 - nn) ≤ R.cells) (hsl : slots + (cSl r.1 - cSl nn) ≤ R.slots)
    (hmy : cKs[y]? = some my) (hn : r.1 ≤ 170) (hcat : zcat rest ≤ 8) (hd : decode mi.2.1 pc = .ok (.invokespecial idx, 3)) (hz : (mi.2.2.2.2, idx, y, kd) ∈ cSpT)
    (kk : ∀ (H' : Heap) (locs' : List Loc), cRel r.1 D cy ad A H0 x0 x1 hp2 H' locs' → W p l e R s m args below meth c H' locs' (cells + (r.1 - nn)) (slots + (cSl r.1 - cSl nn)) QW (F0 m (pc + 3) lsC (rest.map (zcv ad)))) : W p l e R s m args below meth c H locs cells slots QW (F0 m pc lsC ((.ref o :: rest).map (zcv ad))) := by
  obtain ⟨hx, hb, hml, hown, hts, hK, hv9, hES, hA, hscr, -⟩ := id C
  obtain ⟨f1, f2, f3, f4, f5, f6, f7, f8, f9, f10⟩ := cKs_f my (List.mem_of_getElem? hmy)
  obtain ⟨⟨g1, g2⟩, g3, g4⟩ := cKs_w my (List.mem_of_getElem? hmy)
  obtain ⟨k1, k2⟩ := cSpT_w _ hz
  have hyi := cKs_i y k1 my hmy
  dsimp only at k2
  rw [← hyi, ← f10] at k2
  have hGood : GoodIn zTB (zcW my :: zTB) := zgoodC (zTB_in g1 g2)
  have hroom : (cRm d (r.1 - nn) (cSl r.1 - cSl nn)).frames + 1 ≤ R.frames ∧ 8 + (my.2.2.1 + 11) + (cRm d (r.1 - nn) (cSl r.1 - cSl nn)).locals ≤ R.locals := ⟨hfr, by show 8 + (my.2.2.1 + 11) + (60 * d + 40) ≤ R.locals; omega⟩
  have hFix : CallFix p m c mi.2.1 mi.2.2.1 s args zTB (zcn mi.2.2.2.2) := ⟨hx, hb, hml, hown, hts⟩
  have hPre : PreS s H (va_Pc [.ref (ad o)] (cB nn ES D cy ad y0 y1 hq (base + nn))) (.ref (ad o) :: []) := ⟨cblind hE, fun U hU hW => ⟨rfl, by
    obtain ⟨q0, q1, q2, q3, q4, q5, -, -⟩ := cpre hE C hR hU hW
    rw [hcw, hH] at q5
    rw [hcw] at q1 q3
    exact ⟨q0.trans hH, q1, q2, q3, q4, q5, hq0, hq1⟩⟩⟩
  have hW9 : 2 * (F0 m pc lsC ((.ref o :: rest).map (zcv ad))).monitorRoom + ((rest.map (zcv ad)).map fun v => v.category).sum ≤ 8 := lv_room (by rw [zcv_cats]; omega)
  have hfin : ∀ (v : Option Value) (st₀ t : State) (L : List Loc), st₀.heap = H → cQI nn D cy ad y0 y1 hq (base + nn) r (Value.ref (ad o) :: []).toArray st₀ (.returned v) t → (∀ q ∈ L, va_A (cwd nn ad cy hq) (base + nn) q.base) → W p l e R s m args below meth c t.heap (locs ++ L) (cells + (r.1 - nn)) (slots + (cSl r.1 - cSl nn)) QW (F0 m (pc + 3) lsC (v.toList ++ rest.map (zcv ad))) := by
    intro v st₀ t L h0 hQ hL
    obtain ⟨⟨e1, hP2, h9, h91⟩, hF⟩ := hQ
    cases e1
    rw [← hH, ← hcw] at hF hL
    rw [hcw2] at hP2
    exact kk _ _ (cpostI had hA hR hH hn h0 hP2 (h20 h9) (h21 h91) hF hL)
  have hw : zcW my = Cond.code my.1 my.2.1 my.2.2.1 none := by unfold zcW; rw [f8]
  rcases k2 with ⟨-, hlk⟩ | ⟨-, hlk⟩
  · have hCB : CallB R s args (zcn mi.2.2.2.2) idx my.1 my.2.1 my.2.2.1 none (zcW my :: zTB) (cRm d (r.1 - nn) (cSl r.1 - cSl nn)) (r.1 - nn) (cSl r.1 - cSl nn) 0 := callB_of (ws' := zTB) 0 hts hGood (by rw [hw]) rfl rfl (hts _ (cin g3)) (hts _ (cin hlk)) ⟨f5, f6, f9⟩ hroom
    exact crunI (va_runI hFix hM ⟨hCB, f7, hts _ (cin g4)⟩ hPre rfl rfl hl rfl hW9 hd ⟨hce, hsl⟩) hfin
  · have hCB := va_cnB (R := R) (args := args) (bytes := my.2.1) (maxL := my.2.2.1) (ret := none) (ws' := zTB) (ws := zcW my :: zTB) (rm := cRm d (r.1 - nn) (cSl r.1 - cSl nn)) (mc := r.1 - nn) (ms := cSl r.1 - cSl nn) 0 hts hGood (by rw [hw]) rfl rfl (hNest _ hlk) (hts _ (cin g3)) ⟨f5, f6, f9⟩ hroom
    exact crunI (va_runIN hFix hM ⟨hCB, f7, hts _ (cin g4)⟩ hPre rfl rfl hl rfl hW9 hd ⟨hce, hsl⟩) hfin
end CW
