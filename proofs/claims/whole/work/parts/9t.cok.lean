/-! every run of cI is the machine's -/
theorem cat_s {t : ArrayType} {k : Nat} (cy : Nat → ClassId) (h : cat t = some k) : k < 4 ∧ (ztys cy)[k]? = some (cy k, newarray.typeOf t) ∧ Cond.arrayClass (newarray.typeOf t) ∈ lw_tbl ∧ componentBytes (newarray.typeOf t) ≤ 8 ∧ defaultValue (newarray.typeOf t) = (if k = 3 then .long 0 else .int 0) := by
  obtain ⟨w0, w1, w2, w3⟩ := cArr_w
  cases t <;> cases h
  · exact ⟨by decide, rfl, w2, by decide, rfl⟩
  · exact ⟨by decide, rfl, w1, by decide, rfl⟩
  · exact ⟨by decide, rfl, w0, by decide, rfl⟩
  · exact ⟨by decide, rfl, w3, by decide, rfl⟩
theorem cfs {ad : Nat → Nat} {hp : zHP} {nn ck : Nat} (hz : cZ nn hp) (hn : nn < 900) (hc : ck < 11) : ∀ j, j < zNf ck → defaultValue (zty ck j) = vp_V ((List.range (zNf ck)).map (zfv ad hp nn ck)) j := by
  intro j hj
  have e1 : zfv ad hp nn ck j = match zfs ck j with | 0 => .int 0 | 1 => .int 0 | 2 => .long 0 | _ => .null := by
    obtain ⟨a, b, c⟩ := hz nn (Nat.le_refl _) hn j
    unfold zfv
    rw [a, b, c]
    rfl
  have e2 : ∀ ck, ck < 11 → ∀ j, j < zNf ck → defaultValue (zty ck j) = match zfs ck j with | 0 => .int 0 | 1 => .int 0 | 2 => .long 0 | _ => .null := by decide +kernel
  rw [e2 ck hc j hj, ← e1]
  unfold vp_V
  rw [List.getD_eq_getElem?_getD, zfv_at hp hj]
  rfl
set_option maxRecDepth 20000 in
theorem cStr_w : Cond.methodLink (zcn 7) 21 ys_length ∈ lw_tbl ∧ Cond.methodLink (zcn 7) 27 ys_charAt ∈ lw_tbl := by decide +kernel
section CT
variable {l : Launch} {D : va_G} {cy : Nat → ClassId} {ad adK adV : Nat → Nat} {x0 x1 : Nat → Int32}
variable {p : Program} {e : Env} {R : Room} {s : State} {m : MethodId} {args : Array Value} {below : List Frame} {meth : Method} {c : Code} {A : Nat → Prop} {H0 : Heap} {H : Heap} {locs : List Loc} {cells slots : Nat} {QW : State → Prop} {lsC : Array Slot} {mi : zMI} {hp : zHP} {pc nn : Nat} {rest : List Value}
theorem c_len (had : ad 911 = adK 0) (C : zC (cES adK adV) D cy ad A H0 x0 x1 mi p s m args c) (hR : cRel nn D cy ad A H0 x0 x1 hp H locs) (hsz : lsC.size = mi.2.2.1) (hce : cells ≤ R.cells) (hsl : slots ≤ R.slots) (hfr : 4 ≤ R.frames) (hlo : 240 ≤ R.locals) (hcat : zcat rest ≤ 8) (hd : decode mi.2.1 pc = .ok (.invokevirtual 21, 3)) (hc : mi.2.2.2.2 = 7)
    (kk : W p l e R s m args below meth c H locs cells slots QW (F0 m (pc + 3) lsC ((.int (nI (zlenS.getD 0 0)) :: rest).map (zcv ad)))) : W p l e R s m args below meth c H locs cells slots QW (F0 m pc lsC ((.ref 911 :: rest).map (zcv ad))) := by
  obtain ⟨hx, hbb, hml, hown, hts, hK, hv9, hES, hA, -, hH0⟩ := id C
  have e0 := hH0 (by omega)
  subst e0
  have hES := hES.1.1
  have hSB : ∀ U : State, U.heap = H → s.WarmedH U.vm → zSB adK adV A U := by
    intro U hU hW
    unfold zSB
    rw [hU]
    exact (zES_ok adK adV).1 A s U H hW ((zES_ok adK adV).2.2.1 A s s.heap H hES (fun a h1 h2 => hR.2.2.1.2.1 a h1 h2))
  have hrec := vk_recv (i := 0) hES.1 (by decide) hR.2.2.1
  have hcat2 : ((rest.map (zcv ad)).map fun v => v.category).sum ≤ 8 := by rw [zcv_cats]; exact hcat
  have hlk : Cond.methodLink (zcn mi.2.2.2.2) 21 ys_length ∈ zTB := by rw [hc]; exact cin cStr_w.1
  have hM := m_length l adK adV A (i := 0) (by decide)
  show W p l e R s m args below meth c H locs cells slots QW (F0 m pc lsC (([] : List Value).reverse ++ .ref (ad 911) :: rest.map (zcv ad)))
  rw [had]
  refine zsV (k := 0) (d := 1) (As := []) (rest := rest.map (zcv ad)) (own := zcn mi.2.2.2.2) (cc := mi.2.1) (nL := mi.2.2.1) ⟨hx, hbb, hml, hown, hts⟩ hM ws_length hlk wk_i_length wk_s_length wk_in_S ⟨by decide, by decide, by decide +kernel⟩ rfl ⟨by omega, by omega⟩ hrec hSB zSbl hsz hcat2 hd hce hsl (fun v st₀ t g0 hQ => ?_)
  obtain ⟨r, e1, e2, e3⟩ := hQ
  cases e1
  subst e2
  rw [e3, g0]
  exact kk
theorem c_chr {k : Int32} (had : ad 911 = adK 0) (C : zC (cES adK adV) D cy ad A H0 x0 x1 mi p s m args c) (hR : cRel nn D cy ad A H0 x0 x1 hp H locs) (hsz : lsC.size = mi.2.2.1) (hce : cells ≤ R.cells) (hsl : slots ≤ R.slots) (hfr : 4 ≤ R.frames) (hlo : 240 ≤ R.locals) (hcat : zcat rest ≤ 8) (hd : decode mi.2.1 pc = .ok (.invokevirtual 27, 3)) (hc : mi.2.2.2.2 = 7) (hin : zin k (zlenS.getD 0 0) = true)
    (kk : W p l e R s m args below meth c H locs cells slots QW (F0 m (pc + 3) lsC ((.int ((zbytS.getD 0 []).getD k.toNatClampNeg 0 &&& 255) :: rest).map (zcv ad)))) : W p l e R s m args below meth c H locs cells slots QW (F0 m pc lsC ((.int k :: .ref 911 :: rest).map (zcv ad))) := by
  obtain ⟨hx, hbb, hml, hown, hts, hK, hv9, hES, hA, -, hH0⟩ := id C
  have e0 := hH0 (by omega)
  subst e0
  have hES := hES.1.1
  have hSB : ∀ U : State, U.heap = H → s.WarmedH U.vm → zSB adK adV A U := by
    intro U hU hW
    unfold zSB
    rw [hU]
    exact (zES_ok adK adV).1 A s U H hW ((zES_ok adK adV).2.2.1 A s s.heap H hES (fun a h1 h2 => hR.2.2.1.2.1 a h1 h2))
  have hrec := vk_recv (i := 0) hES.1 (by decide) hR.2.2.1
  have hcat2 : ((rest.map (zcv ad)).map fun v => v.category).sum ≤ 8 := by rw [zcv_cats]; exact hcat
  have hlk : Cond.methodLink (zcn mi.2.2.2.2) 27 ys_charAt ∈ zTB := by rw [hc]; exact cin cStr_w.2
  have hk : vp_in k (zlenS.getD 0 0) := zin_spec hin
  have hM := m_charAt l adK adV A (i := 0) (k := k) (by decide) hk
  show W p l e R s m args below meth c H locs cells slots QW (F0 m pc lsC (([.int k] : List Value).reverse ++ .ref (ad 911) :: rest.map (zcv ad)))
  rw [had]
  refine zsV (k := 1) (d := 3) (As := [.int k]) (rest := rest.map (zcv ad)) (own := zcn mi.2.2.2.2) (cc := mi.2.1) (nL := mi.2.2.1) ⟨hx, hbb, hml, hown, hts⟩ hM ws_charAt hlk wk_i_charAt wk_s_charAt wk_in_S ⟨by decide, by decide, by decide +kernel⟩ rfl ⟨by omega, by omega⟩ hrec hSB zSbl hsz hcat2 hd hce hsl (fun v st₀ t g0 hQ => ?_)
  obtain ⟨r, e1, e2, e3⟩ := hQ
  cases e1
  subst e2
  rw [e3, g0]
  exact kk
end CT
section CI
variable {l : Launch} {D : va_G} {cy : Nat → ClassId} {ad adK adV : Nat → Nat} {x0 x1 : Nat → Int32} {base : Nat}
def cIok (l : Launch) (D : va_G) (cy : Nat → ClassId) (ad adK adV : Nat → Nat) (x0 x1 : Nat → Int32) (base n : Nat) : Prop :=
  ∀ (d ci pc : Nat) (ls : zLs) (st : List Value) (nn : Nat) (hp : zHP) (r : Nat × zHP) (mi : zMI) (p : Program) (e : Env) (R : Room) (s : State) (m : MethodId) (args : Array Value) (below : List Frame) (meth : Method) (c : Code) (A : Nat → Prop) (H0 : Heap) (H : Heap) (locs : List Loc) (cells slots : Nat) (QW : State → Prop) (lsC : Array Slot),
    cKs[ci]? = some mi → meth.name = "<init>" → cI n d ci pc ls st nn hp = some r → zC (cES adK adV) D cy ad A H0 x0 x1 mi p s m args c → cRel nn D cy ad A H0 x0 x1 hp H locs → s.heap.size + cells = base + nn → cZ nn hp → 1 ≤ nn → nn ≤ 170 → zlr ad mi.2.2.1 ls lsC → d ≤ R.frames → 60 * d + 40 ≤ R.locals → cells + (r.1 - nn) ≤ R.cells → slots + (cSl r.1 - cSl nn) ≤ R.slots →
    (∀ (H' : Heap) (locs' : List Loc) (lsC' : Array Slot) (pc' : Nat), decode mi.2.1 pc' = .ok (.return_, 1) → cRel r.1 D cy ad A H0 x0 x1 r.2 H' locs' → W p l e R s m args below meth c H' locs' (cells + (r.1 - nn)) (slots + (cSl r.1 - cSl nn)) QW (F0 m pc' lsC' [])) →
    W p l e R s m args below meth c H locs cells slots QW (F0 m pc lsC (st.map (zcv ad)))
set_option maxHeartbeats 1000000 in
theorem cImet {n d ci o nn : Nat} {hp : zHP} {r : Nat × zHP} {my : zMI} (ih : cIok l D cy ad adK adV x0 x1 base n) (hmy : cKs[ci]? = some my) (hlen : (zent my.2.2.1 [.ref o]).length = my.2.2.1) (h : cI n d ci 0 (zent my.2.2.1 [.ref o]) [] nn hp = some r) (hz : cZ nn hp) (h1 : 1 ≤ nn) (h2 : nn ≤ 170) : cMet l (cES adK adV) D cy ad x0 x1 base d nn o hp r my := by
  obtain ⟨f1, f2, f3, f4, f5, f6, f7, f8, f9, f10⟩ := cKs_f my (List.mem_of_getElem? hmy)
  refine Met.ofW (cc := my.2.1) (maxL := my.2.2.1) (ret := my.2.2.2.1) f3 rfl ?_
  intro p e s m args below meth c s₁ B hml hv
  obtain ⟨rfl, hsz, hP, hK, hD0, hvk, hES, h9, h91⟩ := hv
  have hx := B.exec
  have hb := B.bytes
  have hr := B.returns
  have hts := atoms_spec (ws := zcW my :: zTB) B.pre
  have hown : s.vm.findClass my.1.cls = some m.cls := findClass_of_methodNamed B.named
  have hlocks := B.notSynchronized
  have hnm : meth.name = "<init>" := (name_of_methodNamed B.named B.method).1.trans f7
  rw [← hsz] at hES ⊢
  rw [lg_entry_eq]
  have hA : ∀ q, s.heap.size ≤ q → va_A (cwd nn ad cy hp) s.heap.size q := fun q h => Or.inr h
  have C : zC (cES adK adV) D cy ad (va_A (cwd nn ad cy hp) s.heap.size) s.heap x0 x1 my p s m ([Value.ref (ad o)]).toArray c :=
    ⟨hx, hb, hml, by rw [← f1]; exact hown, fun w hw => hts w (List.mem_cons_of_mem _ hw), hK, hvk, hES, hA, fun q => absurd q (by omega), fun _ => rfl⟩
  have hR : cRel nn D cy ad (va_A (cwd nn ad cy hp) s.heap.size) s.heap x0 x1 hp s.heap [] := ⟨hP, hD0.self, va_S.rf, h9, h91⟩
  refine ih d ci 0 (zent my.2.2.1 [.ref o]) [] nn hp r my p e (cRm d (r.1 - nn) (cSl r.1 - cSl nn)) s m _ below meth c _ s.heap s.heap [] 0 0 _ _ hmy hnm h C hR (by omega) hz h1 h2 (zent_lr (as := [.ref o]) hlen) (Nat.le_refl _) (Nat.le_refl _) (by show 0 + (r.1 - nn) ≤ r.1 - nn; omega) (by show 0 + (cSl r.1 - cSl nn) ≤ cSl r.1 - cSl nn; omega) ?_
  intro H' locs' lsC' pc' hd hR'
  rw [Nat.zero_add, Nat.zero_add]
  exact W.vret hx hb (hr.trans f8) (fun t ht _ => ⟨⟨rfl, by rw [ht]; exact hR'.1, hR'.2.2.2.1, hR'.2.2.2.2⟩, hR'.2.2.1.F ht⟩) hR'.2.2.1.2.2 hd
set_option maxHeartbeats 4000000 in
theorem cI_ok (had : ∀ j, j < 170 → ad j = base + j) (h910 : ad 910 = adK 1) (h911 : ad 911 = adK 0) : ∀ n, cIok l D cy ad adK adV x0 x1 base n := by
  intro n
  induction n with
  | zero => intro d ci pc ls st nn hp r mi p e R s m args below meth c A H0 H locs cells slots QW lsC hm hnm h; cases h
  | succ n ih =>
    intro d ci pc ls st nn hp r mi p e R s m args below meth c A H0 H locs cells slots QW lsC hm hnm h C hR hsz hz h1 h2 hl hfr hlo hce hsl kk
    obtain ⟨hx, hb, hml, hown, hts, hK, hv9, hES, hA, -, hH0⟩ := id C
    have hci : mi.2.2.2.2 = ci := cKs_i ci (cKs_lt hm) mi hm
    have hc11 : ci < 11 := cKs_lt hm
    have hE := cES_ok adK adV
    have step : ∀ (n2 : Nat) (hp2 : zHP) (st2 : List Value) (ls2 : zLs) (pc2 cells2 slots2 : Nat) (H2 : Heap) (locs2 : List Loc) (lsC2 : Array Slot), cI n d ci pc2 ls2 st2 n2 hp2 = some r → cRel n2 D cy ad A H0 x0 x1 hp2 H2 locs2 → cells2 = cells + (n2 - nn) → slots2 = slots + (cSl n2 - cSl nn) → nn ≤ n2 → n2 ≤ 170 → cZ n2 hp2 → zlr ad mi.2.2.1 ls2 lsC2 → W p l e R s m args below meth c H2 locs2 cells2 slots2 QW (F0 m pc2 lsC2 (st2.map (zcv ad))) := by
      intro n2 hp2 st2 ls2 pc2 cells2 slots2 H2 locs2 lsC2 h hR e1 e2 a1 a2 hz hl
      obtain ⟨b1, b2, b3⟩ := cI_9 _ _ _ _ _ _ _ _ _ h hz a2
      have s1 := cSl_le nn n2 a1
      have s2 := cSl_le n2 r.1 b1
      have e3 : cells + (r.1 - nn) = cells2 + (r.1 - n2) := by omega
      have e4 : slots + (cSl r.1 - cSl nn) = slots2 + (cSl r.1 - cSl n2) := by omega
      refine ih d ci pc2 ls2 st2 n2 hp2 r mi p e R s m args below meth c A H0 H2 locs2 cells2 slots2 QW lsC2 hm hnm h C hR (by omega) hz (by omega) a2 hl hfr hlo (by omega) (by omega) ?_
      rw [← e3, ← e4]
      exact kk
    have same : ∀ (hp2 : zHP) (st2 : List Value) (ls2 : zLs) (pc2 : Nat) (H2 : Heap) (locs2 : List Loc) (lsC2 : Array Slot), cI n d ci pc2 ls2 st2 nn hp2 = some r → cRel nn D cy ad A H0 x0 x1 hp2 H2 locs2 → cZ nn hp2 → zlr ad mi.2.2.1 ls2 lsC2 → W p l e R s m args below meth c H2 locs2 cells slots QW (F0 m pc2 lsC2 (st2.map (zcv ad))) :=
      fun hp2 st2 ls2 pc2 H2 locs2 lsC2 h hR hz hl => step nn hp2 st2 ls2 pc2 cells slots H2 locs2 lsC2 h hR (by omega) (by omega) (Nat.le_refl _) h2 hz hl
    obtain ⟨b1, b2, b3⟩ := cI_9 _ _ _ _ _ _ _ _ _ h hz h2
    unfold cI at h
    rw [hm] at h
    dsimp only at h
    cases hdk : dkF ci pc with
    | none => rw [hdk] at h; cases h
    | some il =>
      obtain ⟨i, len⟩ := il
      have hd := dkF_ok hm hdk
      rw [hdk] at h
      dsimp only at h
      rw [cactF_eq] at h
      cases ha : cact nn ci pc i ls st hp with
      | some r1 =>
        rw [ha] at h
        dsimp only at h
        obtain ⟨pc1, ls1, st1, hp1⟩ := r1
        by_cases hlz : zlen i len = true
        · rw [if_pos hlz, frcS_eq] at h
          have ha2 := ha
          rw [← hci] at ha
          exact cact_ok C hd hlz ha hR hl (fun H' locs' lsC' hR' hl' => same hp1 st1 ls1 pc1 H' locs' lsC' h hR' (cZ_S hz (cact_9 ha2)) hl')
        · rw [if_neg hlz] at h; cases h
      | none =>
        rw [ha] at h
        dsimp only at h
        cases hj : cJ d ci nn i len st hp with
        | some r1 =>
          rw [hj] at h
          dsimp only at h
          rw [frcN_eq, frcN_eq] at h
          obtain ⟨j1, j2, j3⟩ := cJ_9 hj hz h2
          obtain ⟨bb1, bb2, bb3⟩ := cI_9 _ _ _ _ _ _ _ _ _ h j3 j2
          have s1 := cSl_le nn r1.2.1 j1
          have s2 := cSl_le r1.2.1 r.1 bb1
          unfold cJ at hj
          split at hj
          next idx =>
            split at hj
            next ck hck =>
              split at hj
              next hk =>
                cases hj
                obtain ⟨rfl, hk⟩ := hk
                obtain ⟨w0, w1, w2, w3⟩ := cNewT_w _ (cNew_s hck)
                have hs := cSl_s hk
                refine W_size (fun hle => ?_)
                have hlt := cRel_lt had hR h1 h2
                have hnn := zSH_lt hk
                dsimp only at s1 s2 bb1 hs
                refine c_new (ci := ck) (ty := zty ck) C hR hd w0 (by rw [hci]; exact hts _ (cin w1)) (hts _ (cin w2)) (hts _ (cin w3)) (zuws w0) (zty_ok w0) hk (by rw [had _ hnn]; omega) (cfs hz (by omega) w0) (by omega) (by omega) (fun H' hH' hR' => ?_)
                exact step (nn + 1) hp (.ref nn :: st) ls (pc + 3) _ _ H' locs lsC h hR' (by omega) (by omega) (by omega) hnn j3 hl
              next => cases hj
            next => cases hj
          next t =>
            split at hj
            next k v rr hcat =>
              split at hj
              next hk =>
                cases hj
                obtain ⟨rfl, hk, hv0, hv1⟩ := hk
                obtain ⟨w0, w1, w2, w3, w4⟩ := cat_s cy hcat
                have hs := cSl_s hk
                refine W_size (fun hle => ?_)
                have hlt := cRel_lt had hR h1 h2
                have hnn := zSH_lt hk
                dsimp only at s1 s2 bb1 hs
                have hb8 : v.toNatClampNeg * componentBytes (newarray.typeOf t) ≤ 1000 * 8 := Nat.mul_le_mul hv1 w3
                have z1 : hp.1 nn = fun _ => 0 := funext fun j => (hz nn (Nat.le_refl _) (by omega) j).1
                have z2 : hp.2.1 nn = fun _ => 0 := funext fun j => (hz nn (Nat.le_refl _) (by omega) j).2.1
                refine c_newa (t := k) (N := v.toNatClampNeg) C hR hd (cin w2) w1 hk (by rw [had _ hnn]; omega) ?_ w0 hv0 rfl (by omega) (by omega) (by omega) (fun H' hH' hR' => ?_)
                · rw [w4, z1, z2]
                  by_cases hk3 : k = 3
                  · rw [if_pos hk3, if_pos hk3]; rfl
                  · rw [if_neg hk3, if_neg hk3]; rfl
                · exact step (nn + 1) hp (.ref nn :: rr) ls (pc + 2) _ _ H' locs lsC h hR' (by omega) (by omega) (by omega) hnn j3 hl
              next => cases hj
            next => cases hj
          next idx dims =>
            split at hj
            next k v rr =>
              split at hj
              next hk =>
                cases hj
                obtain ⟨rfl, rfl, hix, hv0, hk0, hk, hks, hnn, hv1, hk1⟩ := hk
                have hs := cSl_m (nn := nn) v.toNatClampNeg (Nat.le_refl _) hk hks
                rw [show nn + 1 + v.toNatClampNeg = nn + (1 + v.toNatClampNeg) by omega] at hs
                refine W_size (fun hle => ?_)
                have hlt := cRel_lt had hR h1 h2
                dsimp only at s1 s2 bb1 hs
                have hclink : (Cond.classLink (zcn mi.2.2.2.2) idx ("[" ++ (FieldType.array .int).toString)).before args s = true := by
                  rw [hci]
                  rcases hix with ⟨rfl, rfl⟩ | ⟨rfl, rfl⟩
                  · exact hts _ (cin cMul_w.1)
                  · exact hts _ (cin cMul_w.2)
                have hb2 : k.toNatClampNeg * componentBytes .int ≤ 1000 * 4 := Nat.mul_le_mul hk1 (by decide)
                refine c_mna (N := v.toNatClampNeg) (K' := k.toNatClampNeg) (base := base) C hR hd hclink hES.2 (hts _ (cin cArr_w.1)) rfl (hK.2 4 _ rfl).2 (hK.2 0 _ rfl).2 hk hks had hnn (by omega) (fun o q1 q2 j => (hz o (by omega) (by omega) j).1) hv0 hk0 rfl rfl (by omega) (by omega) (by omega) (by omega) (by omega) (fun H' hH' hR' => ?_)
                exact step (nn + (1 + v.toNatClampNeg)) _ (.ref nn :: rr) ls (pc + 4) _ _ H' locs lsC h hR' (by omega) (by omega) (by omega) (by omega) j3 hl
              next => cases hj
            next => cases hj
          next idx =>
            split at hj
            next o rr =>
              split at hj
              next hk =>
                cases hj
                obtain ⟨rfl, hk1, hk2, rfl⟩ := hk
                refine W.objInit hx hb hown (by rw [hci]; exact hts _ (cin (cObj_w ci hc11))) (hts _ (cin cObj_v.1)) (hts _ (cin cObj_v.2)) rfl (hl.2.1.trans hml.symm) rfl hd (by omega) ?_ ?_
                · have hc9 : (((rr.map (zcv ad))).map fun v => v.category).sum = zcat rr := zcv_cats ad rr
                  show 2 * 0 + ((rr.map (zcv ad)).map fun v => v.category).sum + 12 ≤ R.locals
                  rw [hc9]
                  omega
                · exact same hp rr ls (pc + 3) H locs lsC h hR hz hl
              next => cases hj
            next => cases hj
          next idx =>
            split at hj
            next x o rr ck j hzf =>
              split at hj
              next hk =>
                cases hj
                obtain ⟨rfl, hko, hfin, hcc, e1⟩ := hk
                rw [← hci] at hzf
                obtain ⟨g1, g2, g3⟩ := zfl_spec hzf
                rw [zfsF_eq ck g1 j g2] at e1
                rw [← (zfnF_eq ck g1 j g2).1] at hfin
                have hdecl : (zT ck j).1 = zcn ci := by rw [(zfnF_eq ck g1 j g2).2, hcc]
                have hat := cwd_at (nn := nn) (ad := ad) (cy := cy) (hp := hp) hko (by omega)
                rw [zcell_obj hp g1, cln_obj hko g1] at hat
                have ht : (∃ q, zty ck j = .object q) ∨ ∃ q, zty ck j = .array q := by
                  unfold zfs at e1
                  cases hzt : zty ck j <;> rw [hzt] at e1 <;> simp at e1 <;> simp
                have hv : zfv ad (hp.1, hp.2.1, zu hp.2.2 o j (some x)) o ck j = zcv ad (.ref x) := by
                  unfold zfv; rw [e1]; show va_rf ((zu hp.2.2 o j (some x) o j).map ad) = _; rw [zu_self]; unfold va_up; rw [if_pos rfl]; rfl
                have hnn : ∀ i, i ≠ j → zfv ad (hp.1, hp.2.1, zu hp.2.2 o j (some x)) o ck i = zfv ad hp o ck i := by
                  intro i hi
                  unfold zfv
                  show (match zfs ck i with | 0 => Value.int (hp.1 o i) | 1 => .int (hp.1 o i) | 2 => .long (hp.2.1 o i) | _ => va_rf ((zu hp.2.2 o j (some x) o i).map ad)) = _
                  rw [zu_self]; unfold va_up; rw [if_neg hi]; rfl
                refine va_putF (D := D) (ci := ck) (C := zcn ck) (T := zT ck) (N := zNf ck) (ty := zty ck j) hx hb hts (zuws g1) (zty ck) (zty_ok g1) (znm_ok g1) hown hK hR.1 hR.2.1 hR.2.2.1 o hat (zclAt ck g1) j g2 (hts _ g3) (fun _ h9 => h9) hfin hnm (by rw [hci]; exact hdecl) (zty_ok g1 j g2) ?_ ?_ (by simpa using g2) hd (fun H1 locs1 hP hD hS => ?_)
                · rcases ht with ⟨q, ht⟩ | ⟨q, ht⟩ <;> rw [ht] <;> rfl
                · rcases ht with ⟨q, ht⟩ | ⟨q, ht⟩ <;> rw [ht] <;> rfl
                · refine same _ rr ls (pc + 3) H1 locs1 lsC h (cset_rel hR hko (by omega) ?_ (fun k q hkq => zcell_r (zu_ne hkq)) rfl rfl hP hD hS) j3 hl
                  rw [zcell_obj _ g1, cln_obj hko g1, zfs_set g2 hv hnn]
              next => cases hj
            next => cases hj
          next idx =>
            split at hj
            next hk =>
              cases hj
              obtain ⟨rfl, rfl, rfl⟩ := hk
              refine va_ldcS hx hb (own := "HandsLet$Tokens") (by rw [hci] at hown; exact hown) hES.1.1.2.2.2.1 hd ?_
              rw [← h911]
              exact same hp (.ref 911 :: st) ls (pc + 2) H locs lsC h hR hz hl
            next => cases hj
          next idx =>
            split at hj
            next b rr =>
              split at hj
              next hk =>
                cases hj
                obtain ⟨rfl, rfl, rfl, rfl, hk1, hk2⟩ := hk
                exact c_len h911 C hR hl.2.1 (by omega) (by omega) (by omega) (by omega) hk2 hd hci (same hp _ ls (pc + 3) H locs lsC h hR hz hl)
              next => cases hj
            next k b rr =>
              split at hj
              next hk =>
                cases hj
                obtain ⟨rfl, rfl, rfl, rfl, hk1, hk2, hk3⟩ := hk
                exact c_chr h911 C hR hl.2.1 (by omega) (by omega) (by omega) (by omega) hk2 hd hci hk3 (same hp _ ls (pc + 3) H locs lsC h hR hz hl)
              next => cases hj
            next => cases hj
          next => cases hj
        | none =>
          rw [hj] at h
          dsimp only at h
          cases hy : cY ci i len st with
          | some y =>
            rw [hy] at h
            dsimp only at h
            cases d with
            | zero => cases hk : cKs[y.1]? <;> rw [hk] at h <;> cases h
            | succ d =>
              cases hk : cKs[y.1]? with
              | none => rw [hk] at h; cases h
              | some my =>
                rw [hk] at h
                dsimp only at h
                by_cases hlz : (zent my.2.2.1 [.ref y.2.1]).length = my.2.2.1
                · rw [if_pos hlz] at h
                  cases he : cI n d y.1 0 (zent my.2.2.1 [.ref y.2.1]) [] nn hp with
                  | none => rw [he] at h; cases h
                  | some w =>
                    rw [he] at h
                    dsimp only at h
                    rw [frcN_eq, frcN_eq] at h
                    obtain ⟨a1, a2, a3⟩ := cI_9 _ _ _ _ _ _ _ _ _ he hz h2
                    obtain ⟨bb1, bb2, bb3⟩ := cI_9 _ _ _ _ _ _ _ _ _ h a3 a2
                    have s1 := cSl_le nn w.1 a1
                    have s2 := cSl_le w.1 r.1 bb1
                    have hM := cImet ih hk hlz he hz h1 h2
                    unfold cY at hy
                    split at hy
                    next idx =>
                      split at hy
                      next o rr q hq =>
                        split at hy
                        next hkk =>
                          cases hy
                          obtain ⟨rfl, hk2⟩ := hkk
                          have hq2 := cSp_s hq
                          refine W_size (fun hle => ?_)
                          have hlt := cRel_lt had hR h1 h2
                          exact c_init (y := q.1) (kd := q.2) (hp2 := w.2) hE hES.1.1.2.2.2.2 had hM rfl hR.2.2.2.1 hR.2.2.2.2 rfl (fun q => q) (fun q => q) C hR (by omega) hl.2.1 hfr hlo (by omega) (by omega) hk a2 hk2 hd (by rw [hci]; exact hq2) (fun H' locs' hR' => step w.1 w.2 rr ls (pc + 3) _ _ H' locs' lsC h hR' rfl rfl a1 a2 a3 hl)
                        next => cases hy
                      next => cases hy
                    next => cases hy
                · rw [if_neg hlz] at h; cases h
          | none =>
            rw [hy] at h
            dsimp only at h
            cases hr : zrt none i st with
            | some v =>
              rw [hr] at h
              dsimp only at h
              by_cases hlz : zlen i len = true
              · rw [if_pos hlz] at h
                cases h
                rcases zrt_spec hr with ⟨rfl, x, rfl, rfl, hret⟩ | ⟨rfl, x, rfl, rfl, hret⟩ | ⟨rfl, rfl, rfl, hret⟩
                · rcases hret with q | ⟨q, -⟩ <;> cases q
                · cases hret
                · have e9 : len = 1 := by simpa [zlen] using hlz
                  subst e9
                  have hkk := kk H locs lsC pc hd hR
                  rw [Nat.sub_self, Nat.sub_self] at hkk
                  exact hkk
              · rw [if_neg hlz] at h; cases h
            | none =>
              rw [hr] at h
              dsimp only at h
              cases hc : ccx nn ci i st with
              | none => rw [hc] at h; cases h
              | some q =>
                rw [hc] at h
                dsimp only at h
                cases d with
                | zero => cases hk : zmt[q.1]? <;> rw [hk] at h <;> cases h
                | succ d =>
                  cases hk : zmt[q.1]? with
                  | none => rw [hk] at h; cases h
                  | some my =>
                    rw [hk] at h
                    dsimp only at h
                    by_cases hlz : zlen i len = true ∧ q.1 < 241 ∧ (zent my.2.2.1 q.2.1).length = my.2.2.1
                    · rw [if_pos hlz] at h
                      cases he : cEv nn n d q.1 0 (zent my.2.2.1 q.2.1) [] hp with
                      | none => rw [he] at h; cases h
                      | some w =>
                        rw [he] at h
                        dsimp only at h
                        rw [frcN_eq] at h
                        have hw := cEv_ok (K := fun v hp' => v = w.1 ∧ hp' = w.2) _ _ _ _ _ _ _ _ he ⟨rfl, rfl⟩
                        have hgo := cgo (nn := nn) hE (cES_str (l := l) (D := D) (cy := cy) (x0 := x0) (x1 := x1) (adV := adV) h910)
                        have hz' := cZ_S hz (cEv_9 _ _ _ _ _ _ _ _ he)
                        have go : ∀ (v : Option Value) (hp' : zHP) (H' : Heap) (locs' : List Loc), (v = w.1 ∧ hp' = w.2) → cRel nn D cy ad A H0 x0 x1 hp' H' locs' → W p l e R s m args below meth c H' locs' cells slots QW (F0 m (pc + 3) lsC ((v.toList ++ q.2.2).map (zcv ad))) := by
                          intro v hp' H' locs' hv hR'
                          obtain ⟨rfl, rfl⟩ := hv
                          exact same w.2 _ ls (pc + 3) H' locs' lsC h hR' hz' hl
                        have hce0 : cells ≤ R.cells := by omega
                        have hsl0 : slots ≤ R.slots := by omega
                        rcases ccx_spec hc with ⟨k, nq, b, rfl, hzc, hle, hdrop, has, hcat, hkb, hcn, hlt⟩ | ⟨k, nq, rfl, -, -, -, -, -, hbad⟩ | ⟨k, nq, rfl, hzc, hle, hrest, has, hcat, hlt⟩ | ⟨k, nq, rfl, -, -, -, -, -, hbad⟩
                        · have e9 : len = 3 := by simpa [zlen] using hlz.1
                          subst e9
                          exact c_call (idx := k) (k := nq) hE hgo C hR hl.2.1 hfr hlo hce0 hsl0 hk hlz.2.1 hlz.2.2 hw hcat hle (Or.inr ⟨hd, by rw [hci]; exact hzc, b, has, hdrop, hkb, hcn⟩) go
                        · omega
                        · have e9 : len = 3 := by simpa [zlen] using hlz.1
                          subst e9
                          exact c_call (idx := k) (k := nq) hE hgo C hR hl.2.1 hfr hlo hce0 hsl0 hk hlz.2.1 hlz.2.2 hw hcat hle (Or.inl ⟨hd, by rw [hci]; exact hzc, has, hrest⟩) go
                        · omega
                    · rw [if_neg hlz] at h; cases h
end CI
