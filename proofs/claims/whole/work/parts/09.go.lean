/-! every run of the small machine is one of the machine -/
section ZG
variable {l : Launch} {ES : (Nat → Prop) → State → Heap → Prop} {D : va_G} {cy : Nat → ClassId} {ad : Nat → Nat} {x0 x1 : Nat → Int32}
set_option maxHeartbeats 400000 in
theorem zcall_ok (hE : zESok ES) {n d M pc idx y k : Nat} {ls : zLs} {st as rest : List Value} {hp : zHP} {K : Option Value → zHP → Prop} {mi my : zMI} {p : Program} {e : Env} {R : Room} {s : State} {m : MethodId} {args : Array Value} {below : List Frame} {meth : Method} {c : Code} {A : Nat → Prop} {H0 : Heap} {H : Heap} {locs : List Loc} {cells slots : Nat} {QW : State → Prop} {lsC : Array Slot} {stat : Bool}
    (hgo : zGo l ES D cy ad x0 x1 n) (hm : zmt[M]? = some mi) (C : zC ES D cy ad A H0 x0 x1 mi p s m args c) (hR : zRel D cy ad A H0 x0 x1 hp H locs) (hl : zlr ad mi.2.2.1 ls lsC) (hfr : d + 1 ≤ R.frames) (hlo : 60 * (d + 1) + 40 ≤ R.locals) (hce : cells ≤ R.cells) (hsl : slots ≤ R.slots)
    (hmy : zmt[y]? = some my) (hy : y < 241) (hlen : (zent my.2.2.1 as).length = my.2.2.1) (h : zWn n d y 0 (zent my.2.2.1 as) [] hp (fun v hp' => zWn n (d + 1) M (pc + 3) ls (v.toList ++ rest) hp' K)) (hcat : zcat rest ≤ 8)
    (hk : k ≤ st.length) (hcall : (stat = true ∧ decode mi.2.1 pc = .ok (.invokestatic idx, 3) ∧ zca mi.2.2.2.2 idx = some (y, k, 1) ∧ as = (st.take k).reverse ∧ rest = st.drop k) ∨ (stat = false ∧ decode mi.2.1 pc = .ok (.invokevirtual idx, 3) ∧ zca mi.2.2.2.2 idx = some (y, k, 0) ∧ ∃ b, as = .ref b :: (st.take k).reverse ∧ st.drop k = .ref b :: rest ∧ zkd b < 11 ∧ zcn (zkd b) = (zyOf y).cls))
    (hend : zEnd l D cy ad x0 x1 M mi K p e R s m args below meth c A H0 cells slots QW) : W p l e R s m args below meth c H locs cells slots QW (F0 m pc lsC (st.map (zcv ad))) := by
  obtain ⟨hx, hb, hml, hown, hts, hK, hv9, hES, hA, hscr, -⟩ := id C
  obtain ⟨f1, f2, f3, f4, f5, f6⟩ := zmt_facts my (List.mem_of_getElem? hmy)
  have hMet := zmet (sz := H.size) hgo hmy hy hlen h
  have hGood : GoodIn zTB (zcW my :: zTB) := by
    intro w hw
    have h1 : w ∈ zTB := by
      rcases List.mem_cons.mp hw with q | q
      · rw [q]; exact zcode_in hmy hy
      · exact q
    exact ⟨h1, good_of_word (List.mem_filter.mp h1).2⟩
  have hroom : (zRm d).frames + 1 ≤ R.frames ∧ 8 + (my.2.2.1 + 11) + (zRm d).locals ≤ R.locals := ⟨hfr, by show 8 + (my.2.2.1 + 11) + (60 * d + 40) ≤ R.locals; omega⟩
  have hsplit : st.map (zcv ad) = (((st.take k).reverse).map (zcv ad)).reverse ++ (st.drop k).map (zcv ad) := by
    rw [← List.map_reverse, List.reverse_reverse, ← List.map_append, List.take_append_drop]
  have hfin : ∀ (v : Option Value) (st₀ t : State) (L : List Loc), st₀.heap = H → zQc D cy ad x0 x1 hp H.size (fun v hp' => zWn n (d + 1) M (pc + 3) ls (v.toList ++ rest) hp' K) (as.map (zcv ad)).toArray st₀ (.returned v) t → (∀ q ∈ L, va_A (zwd ad cy hp) H.size q.base) → W p l e R s m args below meth c t.heap (locs ++ L) cells slots QW (F0 m (pc + 3) lsC (v.toList ++ rest.map (zcv ad))) := by
    intro v st₀ t L h0 hQ hL
    obtain ⟨⟨v2, hp2, e1, hK2, hP2, h9, h91⟩, hF⟩ := hQ
    cases e1
    rw [ztoList]
    exact hgo (d + 1) M (pc + 3) ls _ hp2 K mi p e R s m args below meth c A H0 _ _ cells slots QW lsC hm C hK2 (zpost hA hR h0 hP2 h9 h91 hF hL) hl hfr hlo hce hsl hend
  rcases hcall with ⟨-, hd, hz, has, hrest⟩ | ⟨-, hd, hz, b, has, hdrop, hkb, hcn⟩
  · obtain ⟨w1, w2, w3⟩ := zca_spec hz hmy (by decide)
    have w4 : Cond.static my.1 ∈ zTB := by
      rcases w3 with ⟨-, q⟩ | ⟨q, -⟩
      · exact q
      · cases q
    subst hrest
    subst has
    have hCB : CallB R s args (zcn mi.2.2.2.2) idx my.1 my.2.1 my.2.2.1 my.2.2.2.1 (zcW my :: zTB) (zRm d) 0 0 k := callB_of (ws' := zTB) k hts hGood rfl rfl rfl (hts _ (zini_in hmy)) (hts _ w1) ⟨f5, f6, w2⟩ hroom
    have hFix : CallFix p m c mi.2.1 mi.2.2.1 s args zTB (zcn mi.2.2.2.2) := ⟨hx, hb, hml, hown, hts⟩
    have hPre : PreS s H (va_Pc (((st.take k).reverse).map (zcv ad)) (zB ES D cy ad x0 x1 hp H.size)) (((st.take k).reverse).map (zcv ad)) := ⟨zblind hE, fun U hU hW => ⟨rfl, zpre hE C hR hU hW⟩⟩
    have hn9 : (((st.take k).reverse).map (zcv ad)).length = k := by simp; omega
    have hW9 : 2 * (F0 m pc lsC (st.map (zcv ad))).monitorRoom + (((st.drop k).map (zcv ad)).map fun v => v.category).sum ≤ 8 := lv_room (by rw [zcv_cats]; omega)
    exact zrun (va_runS hFix hMet ⟨hCB, hts _ w4⟩ hPre rfl hn9 hl.2.1 hsplit hW9 hd ⟨hce, hsl⟩) hfin
  · obtain ⟨w1, w2, w3⟩ := zca_spec hz hmy (by decide)
    obtain ⟨w4, w5⟩ : Cond.instanceMethod my.1 ∈ zTB ∧ Cond.selects my.1.cls my.1 my.1 ∈ zTB := by
      rcases w3 with ⟨q, -⟩ | ⟨-, q⟩
      · cases q
      · exact q
    subst has
    rw [zyOf_at hmy] at hcn
    have hat := zwd_at (ad := ad) (cy := cy) (hp := hp) (k := b) rfl (by omega)
    rw [zcell_obj hp hkb] at hat
    have hrecv := va_recv hK hR.1 (zclAt (zkd b) hkb) hat
    rw [show ((zcn (zkd b), zT (zkd b), zNf (zkd b)) : vw_C).1 = my.1.cls from hcn] at hrecv
    rw [hdrop] at hsplit
    have hCB : CallB R s args (zcn mi.2.2.2.2) idx my.1 my.2.1 my.2.2.1 my.2.2.2.1 (zcW my :: zTB) (zRm d) 0 0 k := callB_of (ws' := zTB) k hts hGood rfl rfl rfl (hts _ (zini_in hmy)) (hts _ w1) ⟨f5, f6, w2⟩ hroom
    have hFix : CallFix p m c mi.2.1 mi.2.2.1 s args zTB (zcn mi.2.2.2.2) := ⟨hx, hb, hml, hown, hts⟩
    have hPre : PreV s H my.1.cls (ad b) (va_Pc ((Value.ref b :: (st.take k).reverse).map (zcv ad)) (zB ES D cy ad x0 x1 hp H.size)) (((st.take k).reverse).map (zcv ad)) := ⟨zblind hE, hrecv, fun U hU hW => ⟨rfl, zpre hE C hR hU hW⟩⟩
    have hn9 : (((st.take k).reverse).map (zcv ad)).length = k := by simp; omega
    have hW9 : 2 * (F0 m pc lsC (st.map (zcv ad))).monitorRoom + ((rest.map (zcv ad)).map fun v => v.category).sum ≤ 8 := lv_room (by rw [zcv_cats]; omega)
    exact zrun (va_runV hFix hMet ⟨hCB, hts _ w4, hts _ w5⟩ hPre rfl hn9 hl.2.1 hsplit hW9 hd ⟨hce, hsl⟩) hfin
theorem znfw : nativeFrameWords "java/lang/System" "arraycopy" 5 ≤ 200 := by decide +kernel
theorem zst_split {st as rest : List Value} {n : Nat} (has : as = (st.take n).reverse) (hrest : rest = st.drop n) : st = as.reverse ++ rest := by
  rw [has, hrest, List.reverse_reverse, List.take_append_drop]
theorem zbl {c k y n : Nat} (h : zca c k = some (y, n, 2)) : Cond.methodLink (zcn c) k (zbn y) ∈ zTB := by
  obtain ⟨q, hq, rfl, rfl, rfl, rfl, h5⟩ := zca_mem h
  rcases zcaT_ok q hq with ⟨-, h1⟩ | ⟨-, -, -, h4⟩
  · exact zTB_in (List.mem_of_getElem? h1) rfl
  · rcases h4 with ⟨a, -⟩ | ⟨a, -⟩ <;> omega
set_option maxHeartbeats 400000 in
theorem zbi_ok {pc idx y k : Nat} {st as rest : List Value} {hp hp' : zHP} {mi : zMI} {p : Program} {e : Env} {R : Room} {s : State} {m : MethodId} {args : Array Value} {below : List Frame} {meth : Method} {c : Code} {A : Nat → Prop} {H0 : Heap} {H : Heap} {locs : List Loc} {cells slots : Nat} {QW : State → Prop} {lsC : Array Slot} {v : Option Value}
    (C : zC ES D cy ad A H0 x0 x1 mi p s m args c) (hR : zRel D cy ad A H0 x0 x1 hp H locs) (hsz : lsC.size = mi.2.2.1) (hfr : 5 ≤ R.frames) (hlo : 340 ≤ R.locals) (hce : cells ≤ R.cells) (hsl : slots ≤ R.slots)
    (hd : decode mi.2.1 pc = .ok (.invokestatic idx, 3)) (hz : zca mi.2.2.2.2 idx = some (y, k, 2)) (hy : y = 1002 ∨ (1010 ≤ y ∧ y ≤ 1015)) (has : as = (st.take k).reverse) (hrest : rest = st.drop k) (hcat : zcat rest ≤ 8) (h : zbi y as hp = some (v, hp'))
    (kk : ∀ (H' : Heap) (locs' : List Loc), zRel D cy ad A H0 x0 x1 hp' H' locs' → W p l e R s m args below meth c H' locs' cells slots QW (F0 m (pc + 3) lsC ((v.toList ++ rest).map (zcv ad)))) : W p l e R s m args below meth c H locs cells slots QW (F0 m pc lsC (st.map (zcv ad))) := by
  obtain ⟨hx, hb, hml, hown, hts, hK, hv9, hES, hA, hscr, -⟩ := id C
  have hml2 : c.maxLocals = lsC.size := hml.trans hsz.symm
  have hlk := hts _ (zbl hz)
  have hst := zst_split has hrest
  have hini : (Cond.initialized "java/lang/Math").before args s = true := hts _ (zTB_in zbi_1002.2.2.2.2 rfl)
  have hcat2 : ((rest.map (zcv ad)).map fun v => v.category).sum ≤ 8 := by rw [zcv_cats]; exact hcat
  clear has hrest
  rcases hy with rfl | hy
  · unfold zbi at h
    rw [if_neg (by decide), if_neg (by decide), if_pos rfl] at h
    split at h
    next a i b j n =>
      split at h
      next hc =>
        obtain ⟨k1, k2, h1, h2, h3, h4, h5⟩ := hc
        cases h
        subst hst
        obtain ⟨b1, b2, b3, b4, -⟩ := zbi_1002
        rw [b1] at hlk
        have hat := zwd_at (ad := ad) (cy := cy) (hp := hp) k1 (by omega)
        have hbt := zwd_at (ad := ad) (cy := cy) (hp := hp) k2 (by omega)
        rw [zcell_arr hp (Or.inl rfl)] at hat hbt
        obtain ⟨n0, n1⟩ := zne900 k2 (by omega)
        have hup : ∀ q : Nat, q ≠ b → va_up hp.1 b (va_cpy (hp.1 a) (hp.1 b) i.toNatClampNeg j.toNatClampNeg n.toNatClampNeg) q = hp.1 q := fun q hq => by unfold va_up; rw [if_neg hq]
        refine va_copyi (rest := rest.map (zcv ad)) hx hb hml2 hown hlk (hts _ (zTB_in b3 rfl)) (hts _ (zTB_in b2 rfl)) (hts _ (zTB_in b4 rfl)) hK hR.1 hR.2.1 hR.2.2.1 a b 0 0 (ty := .int) hat hbt rfl rfl rfl h1 h2 h3 h4 h5 (fun _ _ => rfl) (by omega) (by have := znfw; omega) hd (fun H1 locs1 hP hD hS => ?_)
        refine kk H1 locs1 (zset_rel hR k2 (by omega) ?_ (fun q r hq => zcell_i (hup q hq)) (hup 900 n0) (hup 901 n1) hP hD hS)
        rw [zcell_arr _ (Or.inl rfl)]
        show _ = (Sum.inl (cy (100 - 100), zln b, .inl (va_up hp.1 b (va_cpy (hp.1 a) (hp.1 b) i.toNatClampNeg j.toNatClampNeg n.toNatClampNeg) b)) : va_E)
        unfold va_up
        rw [if_pos rfl]
      next => cases h
    next => cases h
  · have hyy : y = 1010 ∨ y = 1011 ∨ y = 1012 ∨ y = 1013 ∨ y = 1014 ∨ y = 1015 := by omega
    rcases hyy with rfl | rfl | rfl | rfl | rfl | rfl
    · unfold zbi at h
      rw [if_neg (by decide), if_neg (by decide), if_neg (by decide), if_pos rfl] at h
      split at h
      next x z =>
        cases h; subst hst
        rw [zbi_1010.1] at hlk
        exact va_mmax (rest := rest.map (zcv ad)) hx hb hml2 hown hlk (hts _ (zTB_in zbi_1010.2.1 rfl)) hini (hts _ (zTB_in zbi_1010.2.2 rfl)) (by omega) (by omega) hce hsl hd (kk _ _ hR)
      next => cases h
    · unfold zbi at h
      rw [if_neg (by decide), if_neg (by decide), if_neg (by decide), if_neg (by decide), if_pos rfl] at h
      split at h
      next x z =>
        cases h; subst hst
        rw [zbi_1011.1] at hlk
        exact va_mmin (rest := rest.map (zcv ad)) hx hb hml2 hown hlk (hts _ (zTB_in zbi_1011.2.1 rfl)) hini (hts _ (zTB_in zbi_1011.2.2 rfl)) (by omega) (by omega) hce hsl hd (kk _ _ hR)
      next => cases h
    · unfold zbi at h
      rw [if_neg (by decide), if_neg (by decide), if_neg (by decide), if_neg (by decide), if_neg (by decide), if_pos rfl] at h
      split at h
      next x =>
        cases h; subst hst
        rw [zbi_1012.1] at hlk
        exact va_mabs (rest := rest.map (zcv ad)) hx hb hml2 hown hlk (hts _ (zTB_in zbi_1012.2.1 rfl)) hini (hts _ (zTB_in zbi_1012.2.2 rfl)) (by omega) (by omega) hce hsl hd (kk _ _ hR)
      next => cases h
    · unfold zbi at h
      rw [if_neg (by decide), if_neg (by decide), if_neg (by decide), if_neg (by decide), if_neg (by decide), if_neg (by decide), if_pos rfl] at h
      split at h
      next x z =>
        cases h; subst hst
        rw [zbi_1013.1] at hlk
        exact va_mmax_long (rest := rest.map (zcv ad)) hx hb hml2 hown hlk (hts _ (zTB_in zbi_1013.2.1 rfl)) hini (hts _ (zTB_in zbi_1013.2.2 rfl)) (by omega) (by omega) hce hsl hd (kk _ _ hR)
      next => cases h
    · unfold zbi at h
      rw [if_neg (by decide), if_neg (by decide), if_neg (by decide), if_neg (by decide), if_neg (by decide), if_neg (by decide), if_neg (by decide), if_pos rfl] at h
      split at h
      next x z =>
        cases h; subst hst
        rw [zbi_1014.1] at hlk
        exact va_mmin_long (rest := rest.map (zcv ad)) hx hb hml2 hown hlk (hts _ (zTB_in zbi_1014.2.1 rfl)) hini (hts _ (zTB_in zbi_1014.2.2 rfl)) (by omega) (by omega) hce hsl hd (kk _ _ hR)
      next => cases h
    · unfold zbi at h
      rw [if_neg (by decide), if_neg (by decide), if_neg (by decide), if_neg (by decide), if_neg (by decide), if_neg (by decide), if_neg (by decide), if_neg (by decide), if_pos rfl] at h
      split at h
      next x =>
        cases h; subst hst
        rw [zbi_1015.1] at hlk
        exact va_mabs_long (rest := rest.map (zcv ad)) hx hb hml2 hown hlk (hts _ (zTB_in zbi_1015.2.1 rfl)) hini (hts _ (zTB_in zbi_1015.2.2 rfl)) (by omega) (by omega) hce hsl hd (kk _ _ hR)
      next => cases h
theorem zbi_none {y : Nat} {as : List Value} {hp : zHP} (h : y < 241) : zbi y as hp = none := by
  unfold zbi
  rw [if_neg (by omega), if_neg (by omega), if_neg (by omega), if_neg (by omega), if_neg (by omega), if_neg (by omega), if_neg (by omega), if_neg (by omega), if_neg (by omega)]
theorem zbi_str {y : Nat} {as : List Value} {hp : zHP} {w : Option Value × zHP} (h : y = 1000 ∨ y = 1001) (hw : zbi y as hp = some w) : w.2 = hp := by
  rcases h with rfl | rfl
  · unfold zbi at hw
    rw [if_pos rfl] at hw
    split at hw
    next => cases hw; rfl
    next => cases hw
  · unfold zbi at hw
    rw [if_neg (by decide), if_pos rfl] at hw
    split at hw
    next =>
      split at hw
      next => cases hw; rfl
      next => cases hw
    next => cases hw
set_option maxHeartbeats 400000 in
theorem zgo (hE : zESok ES) (hstr : zStr l ES D cy ad x0 x1) : ∀ n, zGo l ES D cy ad x0 x1 n := by
  intro n
  induction n with
  | zero => intro d M pc ls st hp K mi p e R s m args below meth c A H0 H locs cells slots QW lsC hm C h; exact h.elim
  | succ n ih =>
    intro d M pc ls st hp K mi p e R s m args below meth c A H0 H locs cells slots QW lsC hm C h hR hl hfr hlo hce hsl hend
    unfold zWn at h
    rw [hm] at h
    dsimp only at h
    split at h
    next v hv => exact hend v hp H locs lsC pc ls st (Or.inl hv) h hR hl
    next hex =>
      split at h
      next => exact h.elim
      next i len hd =>
        split at h
        next hlen =>
          split at h
          next r ha =>
            obtain ⟨r1, r2, r3, r4⟩ := r
            exact zact_ok C hd hlen ha hR hl (fun H' locs' lsC' hR' hl' => ih d M r1 r2 r3 r4 K mi p e R s m args below meth c A H0 H' locs' cells slots QW lsC' hm C h hR' hl' hfr hlo hce hsl hend)
          next ha =>
            split at h
            next v hv => exact hend v hp H locs lsC pc ls st (Or.inr ⟨i, len, hd, hlen, hv⟩) h hR hl
            next =>
              split at h
              next => exact h.elim
              next q hq =>
                split at h
                next w hw =>
                  obtain ⟨h5, h⟩ := h
                  have kk : ∀ (H' : Heap) (locs' : List Loc), zRel D cy ad A H0 x0 x1 w.2 H' locs' → W p l e R s m args below meth c H' locs' cells slots QW (F0 m (pc + 3) lsC ((w.1.toList ++ q.2.2).map (zcv ad))) := fun H' locs' hR' => ih d M (pc + 3) ls _ w.2 K mi p e R s m args below meth c A H0 H' locs' cells slots QW lsC hm C h hR' hl hfr hlo hce hsl hend
                  rcases zcx_spec hq with ⟨k, n2, b, rfl, hz, -, -, -, -, -, -, hlt⟩ | ⟨k, n2, rfl, hz, g1, g2, g3, g4, g5⟩ | ⟨k, n2, rfl, hz, -, -, -, -, hlt⟩ | ⟨k, n2, rfl, hz, g1, g2, g3, g4, g5⟩
                  · exact absurd hw (by rw [zbi_none hlt]; exact fun z => by cases z)
                  · have e9 : len = 3 := by simpa [zlen] using hlen
                    subst e9
                    have e8 : w.2 = hp := zbi_str g5 hw
                    exact hstr p e R s m args below meth c H locs cells slots QW A H0 mi pc k n2 q.1 q.2.1 q.2.2 st w.1 hp w.2 lsC C hd hz g5 g1 g2 g3 g4 hw hR hl.2.1 hce hsl (by omega) (by omega) (kk H locs (by rw [e8]; exact hR))
                  · exact absurd hw (by rw [zbi_none hlt]; exact fun z => by cases z)
                  · have e9 : len = 3 := by simpa [zlen] using hlen
                    subst e9
                    exact zbi_ok C hR hl.2.1 (by omega) (by omega) hce hsl hd hz g5 g3 g2 g4 hw kk
                next hw =>
                  split at h
                  next d' my hmy =>
                    obtain ⟨hlt, hlen2, h⟩ := h
                    rcases zcx_spec hq with ⟨k, n2, b, rfl, hz, g1, g2, g3, g4, g5, g6, -⟩ | ⟨k, n2, rfl, hz, g1, g2, g3, g4, g5⟩ | ⟨k, n2, rfl, hz, g1, g2, g3, g4, -⟩ | ⟨k, n2, rfl, hz, g1, g2, g3, g4, g5⟩
                    · have e9 : len = 3 := by simpa [zlen] using hlen
                      subst e9
                      exact zcall_ok (stat := false) hE ih hm C hR hl hfr hlo hce hsl hmy hlt hlen2 h g4 g1 (Or.inr ⟨rfl, hd, hz, b, g3, g2, g5, g6⟩) hend
                    · omega
                    · have e9 : len = 3 := by simpa [zlen] using hlen
                      subst e9
                      exact zcall_ok (stat := true) hE ih hm C hR hl hfr hlo hce hsl hmy hlt hlen2 h g4 g1 (Or.inl ⟨rfl, hd, hz, g3, g2⟩) hend
                    · omega
                  next => exact h.elim
        next => exact h.elim

end ZG
