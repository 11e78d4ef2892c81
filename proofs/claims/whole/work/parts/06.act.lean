section ZA
variable {p : Program} {l : Launch} {e : Env} {R : Room} {s : State} {m : MethodId} {args : Array Value} {below : List Frame} {meth : Method} {c : Code} {H : Heap} {locs : List Loc} {cells slots : Nat} {QW : State → Prop}
variable {ES : (Nat → Prop) → State → Heap → Prop} {D : va_G} {cy : Nat → ClassId} {ad : Nat → Nat} {A : Nat → Prop} {H0 : Heap} {x0 x1 : Nat → Int32} {mi : zMI} {pc len : Nat} {ls ls' : zLs} {st st' : List Value} {hp hp' : zHP} {lsC : Array Slot} {pc' : Nat}
theorem zsort0 {v : Value} (h : zsort v = 0) : ∃ x, v = .int x := by cases v <;> first | exact ⟨_, rfl⟩ | cases h
theorem zsort1 {v : Value} (h : zsort v = 1) : ∃ x, v = .long x := by cases v <;> first | exact ⟨_, rfl⟩ | cases h
theorem zsort2 {v : Value} (h : zsort v = 2) : ∃ x, v = .ref x := by cases v <;> first | exact ⟨_, rfl⟩ | cases h
theorem zcell_arr {t k n : Nat} (hp : zHP) (h : t = 100 ∨ t = 101 ∨ t = 102) : zcell ad cy hp k (t, n) = .inl (cy (t - 100), n, .inl (hp.1 k)) := by
  unfold zcell
  rw [if_neg (show ¬ (t, n).1 < 100 by show ¬ t < 100; omega), if_neg (show ¬ (t, n).1 = 103 by show ¬ t = 103; omega), if_neg (show ¬ (t, n).1 = 104 by show ¬ t = 104; omega)]
theorem zcell_103 {k n : Nat} (hp : zHP) : zcell ad cy hp k (103, n) = .inl (cy 3, n, .inr (.inl (hp.2.1 k))) := rfl
theorem zcell_104 {k n : Nat} (hp : zHP) : zcell ad cy hp k (104, n) = .inl (cy 4, n, .inr (.inr (.inr (.inr (fun j => (hp.2.2 k j).map ad))))) := rfl
theorem zupd (f : Nat → Nat → Int32) (a i : Nat) (x : Int32) : zu f a i x a = upd (f a) i x := zu_self f a i x
theorem zupdL (f : Nat → Nat → Int64) (a i : Nat) (x : Int64) : zu f a i x a = vp_updL (f a) i x := zu_self f a i x
theorem znoi_eq {cc : ByteArray} {off : Int} {x : Int32} {rest : List Value} (hexec : p.tables.exec = Jvm.exec) (hb : c.code = cc) (hdg : decode cc pc = .ok (.ifCond .eq off, 3)) (hn : ¬ (x = 0)) (k : W p l e R s m args below meth c H locs cells slots QW (F0 m (pc + 3) lsC rest)) : W p l e R s m args below meth c H locs cells slots QW (F0 m pc lsC (.int x :: rest)) := by
  skip
  intro T hT X
  obtain ⟨t, a, b⟩ := k T hT X
  refine ⟨t, ?_, b⟩
  jvm_step X.here [X.here.top, hexec, hb, hdg, Op.ifCond.holds, hn]
  exact a
theorem znoi_ne {cc : ByteArray} {off : Int} {x : Int32} {rest : List Value} (hexec : p.tables.exec = Jvm.exec) (hb : c.code = cc) (hdg : decode cc pc = .ok (.ifCond .ne off, 3)) (hn : ¬ (¬ x = 0)) (k : W p l e R s m args below meth c H locs cells slots QW (F0 m (pc + 3) lsC rest)) : W p l e R s m args below meth c H locs cells slots QW (F0 m pc lsC (.int x :: rest)) := by
  have hn := Classical.byContradiction hn
  intro T hT X
  obtain ⟨t, a, b⟩ := k T hT X
  refine ⟨t, ?_, b⟩
  jvm_step X.here [X.here.top, hexec, hb, hdg, Op.ifCond.holds, hn]
  exact a
theorem znoi_lt {cc : ByteArray} {off : Int} {x : Int32} {rest : List Value} (hexec : p.tables.exec = Jvm.exec) (hb : c.code = cc) (hdg : decode cc pc = .ok (.ifCond .lt off, 3)) (hn : ¬ (x < 0)) (k : W p l e R s m args below meth c H locs cells slots QW (F0 m (pc + 3) lsC rest)) : W p l e R s m args below meth c H locs cells slots QW (F0 m pc lsC (.int x :: rest)) := by
  skip
  intro T hT X
  obtain ⟨t, a, b⟩ := k T hT X
  refine ⟨t, ?_, b⟩
  jvm_step X.here [X.here.top, hexec, hb, hdg, Op.ifCond.holds, hn]
  exact a
theorem znoi_ge {cc : ByteArray} {off : Int} {x : Int32} {rest : List Value} (hexec : p.tables.exec = Jvm.exec) (hb : c.code = cc) (hdg : decode cc pc = .ok (.ifCond .ge off, 3)) (hn : ¬ (0 ≤ x)) (k : W p l e R s m args below meth c H locs cells slots QW (F0 m (pc + 3) lsC rest)) : W p l e R s m args below meth c H locs cells slots QW (F0 m pc lsC (.int x :: rest)) := by
  skip
  intro T hT X
  obtain ⟨t, a, b⟩ := k T hT X
  refine ⟨t, ?_, b⟩
  jvm_step X.here [X.here.top, hexec, hb, hdg, Op.ifCond.holds, hn]
  exact a
theorem znoi_gt {cc : ByteArray} {off : Int} {x : Int32} {rest : List Value} (hexec : p.tables.exec = Jvm.exec) (hb : c.code = cc) (hdg : decode cc pc = .ok (.ifCond .gt off, 3)) (hn : ¬ (0 < x)) (k : W p l e R s m args below meth c H locs cells slots QW (F0 m (pc + 3) lsC rest)) : W p l e R s m args below meth c H locs cells slots QW (F0 m pc lsC (.int x :: rest)) := by
  skip
  intro T hT X
  obtain ⟨t, a, b⟩ := k T hT X
  refine ⟨t, ?_, b⟩
  jvm_step X.here [X.here.top, hexec, hb, hdg, Op.ifCond.holds, hn]
  exact a
theorem znoi_le {cc : ByteArray} {off : Int} {x : Int32} {rest : List Value} (hexec : p.tables.exec = Jvm.exec) (hb : c.code = cc) (hdg : decode cc pc = .ok (.ifCond .le off, 3)) (hn : ¬ (x ≤ 0)) (k : W p l e R s m args below meth c H locs cells slots QW (F0 m (pc + 3) lsC rest)) : W p l e R s m args below meth c H locs cells slots QW (F0 m pc lsC (.int x :: rest)) := by
  skip
  intro T hT X
  obtain ⟨t, a, b⟩ := k T hT X
  refine ⟨t, ?_, b⟩
  jvm_step X.here [X.here.top, hexec, hb, hdg, Op.ifCond.holds, hn]
  exact a
theorem znoc_eq {cc : ByteArray} {off : Int} {x y : Int32} {rest : List Value} (hexec : p.tables.exec = Jvm.exec) (hb : c.code = cc) (hdg : decode cc pc = .ok (.if_icmp .eq off, 3)) (hn : ¬ (x = y)) (k : W p l e R s m args below meth c H locs cells slots QW (F0 m (pc + 3) lsC rest)) : W p l e R s m args below meth c H locs cells slots QW (F0 m pc lsC (.int y :: .int x :: rest)) := by
  skip
  intro T hT X
  obtain ⟨t, a, b⟩ := k T hT X
  refine ⟨t, ?_, b⟩
  jvm_step X.here [X.here.top, hexec, hb, hdg, Op.if_icmp.holds, Op.ifCond.holds, hn]
  exact a
theorem znoc_ne {cc : ByteArray} {off : Int} {x y : Int32} {rest : List Value} (hexec : p.tables.exec = Jvm.exec) (hb : c.code = cc) (hdg : decode cc pc = .ok (.if_icmp .ne off, 3)) (hn : ¬ (¬ x = y)) (k : W p l e R s m args below meth c H locs cells slots QW (F0 m (pc + 3) lsC rest)) : W p l e R s m args below meth c H locs cells slots QW (F0 m pc lsC (.int y :: .int x :: rest)) := by
  have hn := Classical.byContradiction hn
  intro T hT X
  obtain ⟨t, a, b⟩ := k T hT X
  refine ⟨t, ?_, b⟩
  jvm_step X.here [X.here.top, hexec, hb, hdg, Op.if_icmp.holds, Op.ifCond.holds, hn]
  exact a
theorem znoc_lt {cc : ByteArray} {off : Int} {x y : Int32} {rest : List Value} (hexec : p.tables.exec = Jvm.exec) (hb : c.code = cc) (hdg : decode cc pc = .ok (.if_icmp .lt off, 3)) (hn : ¬ (x < y)) (k : W p l e R s m args below meth c H locs cells slots QW (F0 m (pc + 3) lsC rest)) : W p l e R s m args below meth c H locs cells slots QW (F0 m pc lsC (.int y :: .int x :: rest)) := by
  skip
  intro T hT X
  obtain ⟨t, a, b⟩ := k T hT X
  refine ⟨t, ?_, b⟩
  jvm_step X.here [X.here.top, hexec, hb, hdg, Op.if_icmp.holds, Op.ifCond.holds, hn]
  exact a
theorem znoc_ge {cc : ByteArray} {off : Int} {x y : Int32} {rest : List Value} (hexec : p.tables.exec = Jvm.exec) (hb : c.code = cc) (hdg : decode cc pc = .ok (.if_icmp .ge off, 3)) (hn : ¬ (y ≤ x)) (k : W p l e R s m args below meth c H locs cells slots QW (F0 m (pc + 3) lsC rest)) : W p l e R s m args below meth c H locs cells slots QW (F0 m pc lsC (.int y :: .int x :: rest)) := by
  skip
  intro T hT X
  obtain ⟨t, a, b⟩ := k T hT X
  refine ⟨t, ?_, b⟩
  jvm_step X.here [X.here.top, hexec, hb, hdg, Op.if_icmp.holds, Op.ifCond.holds, hn]
  exact a
theorem znoc_gt {cc : ByteArray} {off : Int} {x y : Int32} {rest : List Value} (hexec : p.tables.exec = Jvm.exec) (hb : c.code = cc) (hdg : decode cc pc = .ok (.if_icmp .gt off, 3)) (hn : ¬ (y < x)) (k : W p l e R s m args below meth c H locs cells slots QW (F0 m (pc + 3) lsC rest)) : W p l e R s m args below meth c H locs cells slots QW (F0 m pc lsC (.int y :: .int x :: rest)) := by
  skip
  intro T hT X
  obtain ⟨t, a, b⟩ := k T hT X
  refine ⟨t, ?_, b⟩
  jvm_step X.here [X.here.top, hexec, hb, hdg, Op.if_icmp.holds, Op.ifCond.holds, hn]
  exact a
theorem znoc_le {cc : ByteArray} {off : Int} {x y : Int32} {rest : List Value} (hexec : p.tables.exec = Jvm.exec) (hb : c.code = cc) (hdg : decode cc pc = .ok (.if_icmp .le off, 3)) (hn : ¬ (x ≤ y)) (k : W p l e R s m args below meth c H locs cells slots QW (F0 m (pc + 3) lsC rest)) : W p l e R s m args below meth c H locs cells slots QW (F0 m pc lsC (.int y :: .int x :: rest)) := by
  skip
  intro T hT X
  obtain ⟨t, a, b⟩ := k T hT X
  refine ⟨t, ?_, b⟩
  jvm_step X.here [X.here.top, hexec, hb, hdg, Op.if_icmp.holds, Op.ifCond.holds, hn]
  exact a
set_option maxHeartbeats 16000000 in
theorem zact_ok {i : Instr} (C : zC ES D cy ad A H0 x0 x1 mi p s m args c) (hdec : decode mi.2.1 pc = .ok (i, len)) (hlen : zlen i len = true) (h : zact mi.2.2.2.2 pc i ls st hp = some (pc', ls', st', hp')) (hR : zRel D cy ad A H0 x0 x1 hp H locs) (hl : zlr ad mi.2.2.1 ls lsC)
    (kk : ∀ (H' : Heap) (locs' : List Loc) (lsC' : Array Slot), zRel D cy ad A H0 x0 x1 hp' H' locs' → zlr ad mi.2.2.1 ls' lsC' → W p l e R s m args below meth c H' locs' cells slots QW (F0 m pc' lsC' (st'.map (zcv ad)))) : W p l e R s m args below meth c H locs cells slots QW (F0 m pc lsC (st.map (zcv ad))) := by
  obtain ⟨hx, hb, hml, hown, hts, hK, hv9, hES, hA, hscr, -⟩ := id C
  cases i
  all_goals try (have h9 : (none : Option (Nat × zLs × List Value × zHP)) = some (pc', ls', st', hp') := h; cases h9; done)
  case iconst k =>
      have e9 : len = 1 := by simpa [zlen] using hlen
      subst e9
      cases h
      exact lv_iconst hx hb hdec rfl (kk _ _ _ hR hl)
  case bipush k =>
      have e9 : len = 2 := by simpa [zlen] using hlen
      subst e9
      cases h
      exact lv_bipush hx hb hdec rfl (kk _ _ _ hR hl)
  case sipush k =>
      have e9 : len = 3 := by simpa [zlen] using hlen
      subst e9
      cases h
      exact lv_sipush hx hb hdec rfl (kk _ _ _ hR hl)
  case lconst k =>
      have e9 : len = 1 := by simpa [zlen] using hlen
      subst e9
      cases h
      exact lv_lconst hx hb hdec rfl (kk _ _ _ hR hl)
  case ldc k =>
      have e9 : len = 2 := by simpa [zlen] using hlen
      subst e9
      simp only [zact] at h
      split at h
      next v hv => cases h; exact lv_ldc hx hb hown (hts _ (zci_spec hv)) hdec (kk _ _ _ hR hl)
      next =>
        split at h
        next hq =>
          obtain ⟨q1, q2⟩ := hq
          cases h
          subst q2
          exact va_ldcS hx hb (own := "HandsLetModel") (by rw [q1] at hown; exact hown) hv9 hdec (kk _ _ _ hR hl)
        next => cases h
  case ldc_w k =>
      have e9 : len = 3 := by simpa [zlen] using hlen
      subst e9
      simp only [zact] at h
      split at h
      next v hv => cases h; exact lv_ldcw hx hb hown (hts _ (zci_spec hv)) hdec (kk _ _ _ hR hl)
      next => cases h
  case ldc2_w k =>
      have e9 : len = 3 := by simpa [zlen] using hlen
      subst e9
      simp only [zact] at h
      split at h
      next v hv => cases h; exact lv_ldc2 hx hb hown (hts _ (zcl_spec hv)) hdec (kk _ _ _ hR hl)
      next => cases h
  case iload_n k =>
      have e9 : len = 1 := by simpa [zlen] using hlen
      subst e9
      obtain ⟨v, rfl, rfl, rfl, rfl, hw, hc⟩ := zld_ok (mi := mi) h hl
      obtain ⟨x, rfl⟩ := zsort0 hw
      exact lv_iload_n hx hb hdec rfl hc (kk _ _ _ hR hl)
  case iload k =>
      have e9 : len = 2 := by simpa [zlen] using hlen
      subst e9
      obtain ⟨v, rfl, rfl, rfl, rfl, hw, hc⟩ := zld_ok (mi := mi) h hl
      obtain ⟨x, rfl⟩ := zsort0 hw
      exact lv_iload hx hb hdec hc (kk _ _ _ hR hl)
  case lload_n k =>
      have e9 : len = 1 := by simpa [zlen] using hlen
      subst e9
      obtain ⟨v, rfl, rfl, rfl, rfl, hw, hc⟩ := zld_ok (mi := mi) h hl
      obtain ⟨x, rfl⟩ := zsort1 hw
      exact lv_lload_n hx hb hdec rfl hc (kk _ _ _ hR hl)
  case lload k =>
      have e9 : len = 2 := by simpa [zlen] using hlen
      subst e9
      obtain ⟨v, rfl, rfl, rfl, rfl, hw, hc⟩ := zld_ok (mi := mi) h hl
      obtain ⟨x, rfl⟩ := zsort1 hw
      exact lv_lload hx hb hdec hc (kk _ _ _ hR hl)
  case aload_n k =>
      have e9 : len = 1 := by simpa [zlen] using hlen
      subst e9
      obtain ⟨v, rfl, rfl, rfl, rfl, hw, hc⟩ := zld_ok (mi := mi) h hl
      obtain ⟨x, rfl⟩ := zsort2 hw
      exact lv_aload_n hx hb hdec rfl hc (kk _ _ _ hR hl)
  case aload k =>
      have e9 : len = 2 := by simpa [zlen] using hlen
      subst e9
      obtain ⟨v, rfl, rfl, rfl, rfl, hw, hc⟩ := zld_ok (mi := mi) h hl
      obtain ⟨x, rfl⟩ := zsort2 hw
      exact lv_aload hx hb hdec hc (kk _ _ _ hR hl)
  case istore_n k =>
      have e9 : len = 1 := by simpa [zlen] using hlen
      subst e9
      obtain ⟨v, rfl, rfl, rfl, rfl, hw, hf, hi⟩ := zsto_ok h
      obtain ⟨x, rfl⟩ := zsort0 hw
      exact lv_istore_n hx hb hdec rfl (zlr_has hl) (by rw [← hl.1]; exact hi) rfl (fun ls2 h2 => kk _ _ _ hR (zlr_set1 hl hf hi h2))
  case istore k =>
      have e9 : len = 2 := by simpa [zlen] using hlen
      subst e9
      obtain ⟨v, rfl, rfl, rfl, rfl, hw, hf, hi⟩ := zsto_ok h
      obtain ⟨x, rfl⟩ := zsort0 hw
      exact lv_istore hx hb hdec (zlr_has hl) (by rw [← hl.1]; exact hi) rfl (fun ls2 h2 => kk _ _ _ hR (zlr_set1 hl hf hi h2))
  case astore_n k =>
      have e9 : len = 1 := by simpa [zlen] using hlen
      subst e9
      obtain ⟨v, rfl, rfl, rfl, rfl, hw, hf, hi⟩ := zsto_ok h
      obtain ⟨x, rfl⟩ := zsort2 hw
      exact lv_astore_n hx hb hdec rfl (zlr_has hl) (by rw [← hl.1]; exact hi) rfl (fun ls2 h2 => kk _ _ _ hR (zlr_set1 hl hf hi h2))
  case astore k =>
      have e9 : len = 2 := by simpa [zlen] using hlen
      subst e9
      obtain ⟨v, rfl, rfl, rfl, rfl, hw, hf, hi⟩ := zsto_ok h
      obtain ⟨x, rfl⟩ := zsort2 hw
      exact lv_astore hx hb hdec (zlr_has hl) (by rw [← hl.1]; exact hi) rfl (fun ls2 h2 => kk _ _ _ hR (zlr_set1 hl hf hi h2))
  case lstore_n k =>
      have e9 : len = 1 := by simpa [zlen] using hlen
      subst e9
      simp only [zact, zstl] at h
      split at h
      next v r =>
        split at h
        next hq =>
          cases h
          exact lv_lstore_n hx hb hdec rfl (zlr_has hl) (by rw [← hl.1]; exact hq.2) rfl (fun ls2 h2 => kk _ _ _ hR (zlr_set2 hl hq.1 hq.2 h2))
        next => cases h
      next => cases h
  case lstore k =>
      have e9 : len = 2 := by simpa [zlen] using hlen
      subst e9
      simp only [zact, zstl] at h
      split at h
      next v r =>
        split at h
        next hq =>
          cases h
          exact lv_lstore hx hb hdec (zlr_has hl) (by rw [← hl.1]; exact hq.2) rfl (fun ls2 h2 => kk _ _ _ hR (zlr_set2 hl hq.1 hq.2 h2))
        next => cases h
      next => cases h
  case iinc k n =>
      have e9 : len = 3 := by simpa [zlen] using hlen
      subst e9
      simp only [zact] at h
      split at h
      next x hx1 =>
        split at h
        next hf =>
          cases h
          have hi : k < ls.length := (List.getElem?_eq_some_iff.mp hx1).1
          have hm : (k, Value.int x) ∈ zprs ad ls := zprs_mem.mpr ⟨.int x, hx1, rfl⟩
          obtain ⟨q, hq⟩ := List.mem_iff_getElem?.mp hm
          exact lv_iinc (k := q) hx hb hdec (zlr_has hl) hq rfl (by rw [← hl.1]; exact hi) rfl (fun ls2 h2 => kk _ _ _ hR (zlr_set1 (v := .int (x + Int32.ofInt n)) hl hf hi h2))
        next => cases h
      next => cases h
  case iadd =>
      have e9 : len = 1 := by simpa [zlen] using hlen
      subst e9
      simp only [zact, zi2] at h
      split at h
      next => cases h; exact lv_iadd hx hb hdec (kk _ _ _ hR hl)
      next => cases h
  case isub =>
      have e9 : len = 1 := by simpa [zlen] using hlen
      subst e9
      simp only [zact, zi2] at h
      split at h
      next => cases h; exact lv_isub hx hb hdec (kk _ _ _ hR hl)
      next => cases h
  case imul =>
      have e9 : len = 1 := by simpa [zlen] using hlen
      subst e9
      simp only [zact, zi2] at h
      split at h
      next => cases h; exact lv_imul hx hb hdec (kk _ _ _ hR hl)
      next => cases h
  case iand =>
      have e9 : len = 1 := by simpa [zlen] using hlen
      subst e9
      simp only [zact, zi2] at h
      split at h
      next => cases h; exact lv_iand hx hb hdec (kk _ _ _ hR hl)
      next => cases h
  case ior =>
      have e9 : len = 1 := by simpa [zlen] using hlen
      subst e9
      simp only [zact, zi2] at h
      split at h
      next => cases h; exact lv_ior hx hb hdec (kk _ _ _ hR hl)
      next => cases h
  case ishl =>
      have e9 : len = 1 := by simpa [zlen] using hlen
      subst e9
      simp only [zact, zi2] at h
      split at h
      next => cases h; exact lv_ishl hx hb hdec (kk _ _ _ hR hl)
      next => cases h
  case ishr =>
      have e9 : len = 1 := by simpa [zlen] using hlen
      subst e9
      simp only [zact, zi2] at h
      split at h
      next => cases h; exact lv_ishr hx hb hdec (kk _ _ _ hR hl)
      next => cases h
  case iushr =>
      have e9 : len = 1 := by simpa [zlen] using hlen
      subst e9
      simp only [zact, zi2] at h
      split at h
      next => cases h; exact lv_iushr hx hb hdec rfl (kk _ _ _ hR hl)
      next => cases h
  case ladd =>
      have e9 : len = 1 := by simpa [zlen] using hlen
      subst e9
      simp only [zact, zl2] at h
      split at h
      next => cases h; exact lv_ladd hx hb hdec (kk _ _ _ hR hl)
      next => cases h
  case lsub =>
      have e9 : len = 1 := by simpa [zlen] using hlen
      subst e9
      simp only [zact, zl2] at h
      split at h
      next => cases h; exact lv_lsub hx hb hdec (kk _ _ _ hR hl)
      next => cases h
  case lmul =>
      have e9 : len = 1 := by simpa [zlen] using hlen
      subst e9
      simp only [zact, zl2] at h
      split at h
      next => cases h; exact lv_lmul hx hb hdec (kk _ _ _ hR hl)
      next => cases h
  case land =>
      have e9 : len = 1 := by simpa [zlen] using hlen
      subst e9
      simp only [zact, zl2] at h
      split at h
      next => cases h; exact lv_land hx hb hdec (kk _ _ _ hR hl)
      next => cases h
  case idiv =>
      have e9 : len = 1 := by simpa [zlen] using hlen
      subst e9
      simp only [zact] at h
      split at h
      next =>
        split at h
        next => cases h
        next h0 => cases h; exact lv_idiv hx hb hdec h0 (kk _ _ _ hR hl)
      next => cases h
  case irem =>
      have e9 : len = 1 := by simpa [zlen] using hlen
      subst e9
      simp only [zact] at h
      split at h
      next =>
        split at h
        next => cases h
        next h0 => cases h; exact lv_irem hx hb hdec h0 (kk _ _ _ hR hl)
      next => cases h
  case ldiv =>
      have e9 : len = 1 := by simpa [zlen] using hlen
      subst e9
      simp only [zact] at h
      split at h
      next =>
        split at h
        next => cases h
        next h0 => cases h; exact lv_ldiv hx hb hdec h0 (kk _ _ _ hR hl)
      next => cases h
  case lrem =>
      have e9 : len = 1 := by simpa [zlen] using hlen
      subst e9
      simp only [zact] at h
      split at h
      next =>
        split at h
        next => cases h
        next h0 => cases h; exact lv_lrem hx hb hdec h0 (kk _ _ _ hR hl)
      next => cases h
  case ineg =>
      have e9 : len = 1 := by simpa [zlen] using hlen
      subst e9
      simp only [zact, zi1] at h
      split at h
      next => cases h; exact lv_ineg hx hb hdec (kk _ _ _ hR hl)
      next => cases h
  case lneg =>
      have e9 : len = 1 := by simpa [zlen] using hlen
      subst e9
      simp only [zact, zl1] at h
      split at h
      next => cases h; exact lv_lneg hx hb hdec (kk _ _ _ hR hl)
      next => cases h
  case i2l =>
      have e9 : len = 1 := by simpa [zlen] using hlen
      subst e9
      simp only [zact, zi1] at h
      split at h
      next => cases h; exact lv_i2l hx hb hdec rfl (kk _ _ _ hR hl)
      next => cases h
  case i2b =>
      have e9 : len = 1 := by simpa [zlen] using hlen
      subst e9
      simp only [zact, zi1] at h
      split at h
      next => cases h; exact lv_i2b hx hb hdec rfl (kk _ _ _ hR hl)
      next => cases h
  case l2i =>
      have e9 : len = 1 := by simpa [zlen] using hlen
      subst e9
      simp only [zact, zl1] at h
      split at h
      next => cases h; exact lv_l2i hx hb hdec rfl (kk _ _ _ hR hl)
      next => cases h
  case lcmp =>
      have e9 : len = 1 := by simpa [zlen] using hlen
      subst e9
      simp only [zact] at h
      split at h
      next => cases h; exact W.lcmp hx hb hdec (kk _ _ _ hR hl)
      next => cases h
  case dup =>
      have e9 : len = 1 := by simpa [zlen] using hlen
      subst e9
      simp only [zact] at h
      split at h
      next v r =>
        split at h
        next hc => cases h; exact lv_dup hx hb hdec (by rw [zcv_cat]; exact hc) (kk _ _ _ hR hl)
        next => cases h
      next => cases h
  case dup2 =>
      have e9 : len = 1 := by simpa [zlen] using hlen
      subst e9
      simp only [zact] at h
      split at h
      next v w r =>
        split at h
        next hc => cases h; exact lv_dup2_11 hx hb hdec (by rw [zcv_cat]; exact hc.1) (by rw [zcv_cat]; exact hc.2) (kk _ _ _ hR hl)
        next => cases h
      next => cases h
  case pop =>
      have e9 : len = 1 := by simpa [zlen] using hlen
      subst e9
      simp only [zact] at h
      split at h
      next v r =>
        split at h
        next hc => cases h; exact lv_pop hx hb hdec (by rw [zcv_cat]; exact hc) (kk _ _ _ hR hl)
        next => cases h
      next => cases h
  case iaload =>
      have e9 : len = 1 := by simpa [zlen] using hlen
      subst e9
      simp only [zact] at h
      split at h
      next i a r =>
        split at h
        next hc =>
          cases h
          have hat := zwd_at (ad := ad) (cy := cy) (hp := hp) hc.1 (by omega)
          rw [zcell_arr hp (Or.inl rfl)] at hat
          exact va_iald hx hb hK hR.1 a 0 hat rfl (zin_spec hc.2) hdec (kk _ _ _ hR hl)
        next =>
          split at h
          next hc =>
            obtain ⟨q1, q2, q3⟩ := hc
            cases h
            subst q1
            obtain ⟨L, hX, hbl, hbA, hL, hL2⟩ := hscr q2
            have hin := zin_spec q3
            rw [hR.2.2.2.2, hL, nI_clamp hL2] at hin
            refine va_sld hx hb hX hbl hbA hR.2.2.1 hin hdec ?_
            have := kk _ _ _ hR hl
            rw [hR.2.2.2.1] at this
            exact this
          next => cases h
      next => cases h
  case baload =>
      have e9 : len = 1 := by simpa [zlen] using hlen
      subst e9
      simp only [zact] at h
      split at h
      next i a r =>
        split at h
        next hc =>
          cases h
          rcases hc.1 with hk | hk
          · have hat := zwd_at (ad := ad) (cy := cy) (hp := hp) hk (by omega)
            rw [zcell_arr hp (Or.inr (Or.inl rfl))] at hat
            exact va_bald hx hb hK hR.1 a 1 hat rfl (zin_spec hc.2) hdec (kk _ _ _ hR hl)
          · have hat := zwd_at (ad := ad) (cy := cy) (hp := hp) hk (by omega)
            rw [zcell_arr hp (Or.inr (Or.inr rfl))] at hat
            exact va_zald hx hb hK hR.1 a 2 hat rfl (zin_spec hc.2) hdec (kk _ _ _ hR hl)
        next => cases h
      next => cases h
  case laload =>
      have e9 : len = 1 := by simpa [zlen] using hlen
      subst e9
      simp only [zact] at h
      split at h
      next i a r =>
        split at h
        next hc =>
          cases h
          have hat := zwd_at (ad := ad) (cy := cy) (hp := hp) hc.1 (by omega)
          rw [zcell_103 hp] at hat
          exact va_lald hx hb hK hR.1 a 3 hat rfl (zin_spec hc.2) hdec (kk _ _ _ hR hl)
        next => cases h
      next => cases h
  case aaload =>
      have e9 : len = 1 := by simpa [zlen] using hlen
      subst e9
      simp only [zact] at h
      split at h
      next i a r =>
        split at h
        next hc =>
          split at h
          next q hq =>
            cases h
            have hat := zwd_at (ad := ad) (cy := cy) (hp := hp) hc.1 (by omega)
            rw [zcell_104 hp] at hat
            have hin := zin_spec hc.2
            have hlt : i.toNatClampNeg < zln a := Nat.not_le.mp fun z => hin (Or.inr z)
            have hkk := kk _ _ _ hR hl
            have e5 : zcv ad (.ref q) = va_rf ((hp.2.2 a i.toNatClampNeg).map ad) := by rw [hq]; rfl
            rw [List.map_cons, e5] at hkk
            exact W.aald (v := va_rf ((hp.2.2 a i.toNatClampNeg).map ad)) (ty := .array .int) hx hb (hR.1 a _ hat) ((hK.2 4 _ rfl).1 (zln a) (fun j => va_rf ((hp.2.2 a j).map ad))) rfl (fun z => by cases z) (by show ¬ (i < 0 ∨ (arrV _ _ _).slots.size ≤ _); rw [arrV_size]; exact hin) (by show (arrV _ _ _).slots[_]? = _; rw [arrV_read _ _ hlt]) rfl rfl hdec hkk
          next => cases h
        next => cases h
      next => cases h
  case iastore =>
      have e9 : len = 1 := by simpa [zlen] using hlen
      subst e9
      simp only [zact] at h
      split at h
      next x i a r =>
        split at h
        next hc =>
          cases h
          have hat := zwd_at (ad := ad) (cy := cy) (hp := hp) hc.1 (by omega)
          obtain ⟨n0, n1⟩ := zne900 hc.1 (by omega)
          rw [zcell_arr hp (Or.inl rfl)] at hat
          refine va_iast hx hb hK hR.1 hR.2.1 hR.2.2.1 a 0 hat rfl (zin_spec hc.2) hdec (fun H1 locs1 hP hD hS => ?_)
          refine kk H1 locs1 lsC (zset_rel hR hc.1 (by omega) ?_ (fun k q hkq => zcell_i (zu_ne hkq)) (zu_ne n0) (zu_ne n1) hP hD hS) hl
          rw [zcell_arr _ (Or.inl rfl)]
          show _ = (Sum.inl (cy (100 - 100), zln a, .inl (zu hp.1 a i.toNatClampNeg x a)) : va_E)
          rw [zupd]
        next => cases h
      next => cases h
  case bastore =>
      have e9 : len = 1 := by simpa [zlen] using hlen
      subst e9
      simp only [zact] at h
      split at h
      next x i a r =>
        split at h
        next hc =>
          cases h
          rcases hc.1 with hk | hk
          · have hat := zwd_at (ad := ad) (cy := cy) (hp := hp) hk (by omega)
            obtain ⟨n0, n1⟩ := zne900 hk (by omega)
            rw [zcell_arr hp (Or.inr (Or.inl rfl))] at hat
            refine va_bast hx hb hK hR.1 hR.2.1 hR.2.2.1 a 1 hat rfl (zin_spec hc.2) hdec (fun H1 locs1 hP hD hS => ?_)
            refine kk H1 locs1 lsC (zset_rel hR hk (by omega) ?_ (fun k q hkq => zcell_i (zu_ne hkq)) (zu_ne n0) (zu_ne n1) hP hD hS) hl
            rw [zcell_arr _ (Or.inr (Or.inl rfl))]
            show _ = (Sum.inl (cy (101 - 100), zln a, .inl (zu hp.1 a i.toNatClampNeg (vp_nar (if zkd a = 101 then .byte else .boolean) x) a)) : va_E)
            rw [zupd, if_pos hk]
          · have hat := zwd_at (ad := ad) (cy := cy) (hp := hp) hk (by omega)
            obtain ⟨n0, n1⟩ := zne900 hk (by omega)
            rw [zcell_arr hp (Or.inr (Or.inr rfl))] at hat
            refine va_zast hx hb hK hR.1 hR.2.1 hR.2.2.1 a 2 hat rfl (zin_spec hc.2) hdec (fun H1 locs1 hP hD hS => ?_)
            refine kk H1 locs1 lsC (zset_rel hR hk (by omega) ?_ (fun k q hkq => zcell_i (zu_ne hkq)) (zu_ne n0) (zu_ne n1) hP hD hS) hl
            rw [zcell_arr _ (Or.inr (Or.inr rfl))]
            show _ = (Sum.inl (cy (102 - 100), zln a, .inl (zu hp.1 a i.toNatClampNeg (vp_nar (if zkd a = 101 then .byte else .boolean) x) a)) : va_E)
            rw [zupd, if_neg (by omega)]
        next => cases h
      next => cases h
  case lastore =>
      have e9 : len = 1 := by simpa [zlen] using hlen
      subst e9
      simp only [zact] at h
      split at h
      next x i a r =>
        split at h
        next hc =>
          cases h
          have hat := zwd_at (ad := ad) (cy := cy) (hp := hp) hc.1 (by omega)
          rw [zcell_103 hp] at hat
          refine va_last hx hb hK hR.1 hR.2.1 hR.2.2.1 a 3 hat rfl (zin_spec hc.2) hdec (fun H1 locs1 hP hD hS => ?_)
          refine kk H1 locs1 lsC (zset_rel hR hc.1 (by omega) ?_ (fun k q hkq => zcell_l (zu_ne hkq)) rfl rfl hP hD hS) hl
          rw [zcell_103]
          show _ = (Sum.inl (cy 3, zln a, .inr (.inl (zu hp.2.1 a i.toNatClampNeg x a))) : va_E)
          rw [zupdL]
        next => cases h
      next => cases h
  case arraylength =>
      have e9 : len = 1 := by simpa [zlen] using hlen
      subst e9
      simp only [zact] at h
      split at h
      next a r =>
        split at h
        next hc =>
          cases h
          have hat := zwd_at (ad := ad) (cy := cy) (hp := hp) (k := a) rfl (by omega)
          have hkk := kk _ _ _ hR hl
          rcases (show zkd a = 100 ∨ zkd a = 101 ∨ zkd a = 102 ∨ zkd a = 103 ∨ zkd a = 104 by omega) with q | q | q | q | q
          · rw [q, zcell_arr hp (Or.inl rfl)] at hat
            exact va_alen hx hb hK hR.1 a 0 hat (ty := .int) rfl rfl hdec hkk
          · rw [q, zcell_arr hp (Or.inr (Or.inl rfl))] at hat
            exact va_alen hx hb hK hR.1 a 1 hat (ty := .byte) rfl rfl hdec hkk
          · rw [q, zcell_arr hp (Or.inr (Or.inr rfl))] at hat
            exact va_alen hx hb hK hR.1 a 2 hat (ty := .boolean) rfl rfl hdec hkk
          · rw [q, zcell_103 hp] at hat
            exact va_alen hx hb hK hR.1 a 3 hat (ty := .long) rfl rfl hdec hkk
          · rw [q, zcell_104 hp] at hat
            exact va_alen hx hb hK hR.1 a 4 hat (ty := .array .int) rfl rfl hdec hkk
        next =>
          split at h
          next hc =>
            obtain ⟨q1, q2⟩ := hc
            cases h
            subst q1
            obtain ⟨L, hX, hbl, hbA, hL, hL2⟩ := hscr q2
            refine va_slen hx hb hX hbl hbA hR.2.2.1 hdec ?_
            have := kk _ _ _ hR hl
            rw [hR.2.2.2.2, hL] at this
            exact this
          next => cases h
      next => cases h
  case getfield k =>
      have e9 : len = 3 := by simpa [zlen] using hlen
      subst e9
      simp only [zact] at h
      split at h
      next o r ci j hf =>
        obtain ⟨q1, -⟩ := zget_ok (lsC := lsC) (l := l) (e := e) (R := R) (below := below) (meth := meth) (cells := cells) (slots := slots) (QW := fun _ => True) C hdec hf h hR (fun T hT X => ⟨T.setTop (F0 m pc' lsC (st'.map (zcv ad))), Steps.refl _, trivial⟩)
        obtain ⟨e1, e2⟩ := q1
        subst e1; subst e2
        exact (zget_ok C hdec hf h hR (kk _ _ _ hR hl)).2
      next => cases h
  case putfield k =>
      have e9 : len = 3 := by simpa [zlen] using hlen
      subst e9
      simp only [zact] at h
      split at h
      next v o r ci j hf =>
        obtain ⟨e1, -⟩ := zput_ok (lsC := lsC) (l := l) (e := e) (R := R) (below := below) (meth := meth) (cells := cells) (slots := slots) (QW := fun _ => True) C hdec hf h hR (fun H' locs' hR' T hT X => ⟨T.setTop (F0 m pc' lsC (st'.map (zcv ad))), Steps.refl _, trivial⟩)
        subst e1
        exact (zput_ok C hdec hf h hR (fun H' locs' hR' => kk H' locs' lsC hR' hl)).2
      next => cases h
  case goto off =>
      have e9 : len = 3 := by simpa [zlen] using hlen
      subst e9
      obtain ⟨e1, rfl, rfl, rfl⟩ := ztg_ok h
      exact lv_goto hx hb hdec e1 (kk _ _ _ hR hl)
  case ifCond cd off =>
      have e9 : len = 3 := by simpa [zlen] using hlen
      subst e9
      simp only [zact] at h
      split at h
      next x r =>
        have kt : zcmp cd x 0 = true → ∃ tgt : Nat, (pc : Int) + off = (tgt : Int) ∧ W p l e R s m args below meth c H locs cells slots QW (F0 m tgt lsC (r.map (zcv ad))) := by
          intro hc
          rw [if_pos hc] at h
          obtain ⟨e1, rfl, rfl, rfl⟩ := ztg_ok h
          exact ⟨pc', e1, kk _ _ _ hR hl⟩
        have kf : ¬ zcmp cd x 0 = true → W p l e R s m args below meth c H locs cells slots QW (F0 m (pc + 3) lsC (r.map (zcv ad))) := by
          intro hc
          rw [if_neg hc] at h
          cases h
          exact kk _ _ _ hR hl
        by_cases hc : zcmp cd x 0 = true
        · obtain ⟨tgt, ht, kw⟩ := kt hc
          cases cd
          · exact lv_if_eq hx hb hdec ht (fun _ => kw) (fun z => absurd (of_decide_eq_true hc) z)
          · exact lv_if_ne hx hb hdec ht (fun _ => kw) (fun z => absurd z (of_decide_eq_true hc))
          · exact lv_if_lt hx hb hdec ht (fun _ => kw) (fun z => absurd (of_decide_eq_true hc) z)
          · exact lv_if_ge hx hb hdec ht (fun _ => kw) (fun z => absurd (of_decide_eq_true hc) z)
          · exact lv_if_gt hx hb hdec ht (fun _ => kw) (fun z => absurd (of_decide_eq_true hc) z)
          · exact lv_if_le hx hb hdec ht (fun _ => kw) (fun z => absurd (of_decide_eq_true hc) z)
        · have kw := kf hc
          cases cd
          · exact znoi_eq hx hb hdec (fun z => hc (decide_eq_true z)) kw
          · exact znoi_ne hx hb hdec (fun z => hc (decide_eq_true z)) kw
          · exact znoi_lt hx hb hdec (fun z => hc (decide_eq_true z)) kw
          · exact znoi_ge hx hb hdec (fun z => hc (decide_eq_true z)) kw
          · exact znoi_gt hx hb hdec (fun z => hc (decide_eq_true z)) kw
          · exact znoi_le hx hb hdec (fun z => hc (decide_eq_true z)) kw
      next => cases h
  case if_icmp cd off =>
      have e9 : len = 3 := by simpa [zlen] using hlen
      subst e9
      simp only [zact] at h
      split at h
      next y x r =>
        have kt : zcmp cd x y = true → ∃ tgt : Nat, (pc : Int) + off = (tgt : Int) ∧ W p l e R s m args below meth c H locs cells slots QW (F0 m tgt lsC (r.map (zcv ad))) := by
          intro hc
          rw [if_pos hc] at h
          obtain ⟨e1, rfl, rfl, rfl⟩ := ztg_ok h
          exact ⟨pc', e1, kk _ _ _ hR hl⟩
        have kf : ¬ zcmp cd x y = true → W p l e R s m args below meth c H locs cells slots QW (F0 m (pc + 3) lsC (r.map (zcv ad))) := by
          intro hc
          rw [if_neg hc] at h
          cases h
          exact kk _ _ _ hR hl
        by_cases hc : zcmp cd x y = true
        · obtain ⟨tgt, ht, kw⟩ := kt hc
          cases cd
          · exact lv_icmp_eq hx hb hdec ht (fun _ => kw) (fun z => absurd (of_decide_eq_true hc) z)
          · exact lv_icmp_ne hx hb hdec ht (fun _ => kw) (fun z => absurd z (of_decide_eq_true hc))
          · exact lv_icmp_lt hx hb hdec ht (fun _ => kw) (fun z => absurd (of_decide_eq_true hc) z)
          · exact lv_icmp_ge hx hb hdec ht (fun _ => kw) (fun z => absurd (of_decide_eq_true hc) z)
          · exact lv_icmp_gt hx hb hdec ht (fun _ => kw) (fun z => absurd (of_decide_eq_true hc) z)
          · exact lv_icmp_le hx hb hdec ht (fun _ => kw) (fun z => absurd (of_decide_eq_true hc) z)
        · have kw := kf hc
          cases cd
          · exact znoc_eq hx hb hdec (fun z => hc (decide_eq_true z)) kw
          · exact znoc_ne hx hb hdec (fun z => hc (decide_eq_true z)) kw
          · exact znoc_lt hx hb hdec (fun z => hc (decide_eq_true z)) kw
          · exact znoc_ge hx hb hdec (fun z => hc (decide_eq_true z)) kw
          · exact znoc_gt hx hb hdec (fun z => hc (decide_eq_true z)) kw
          · exact znoc_le hx hb hdec (fun z => hc (decide_eq_true z)) kw
      next => cases h
  case tableswitch dflt lo hi offs =>
      simp only [zact] at h
      split at h
      next x r =>
        split at h
        next off ho =>
          obtain ⟨e1, rfl, rfl, rfl⟩ := ztg_ok h
          unfold zsw at ho
          split at ho
          next hq =>
            cases ho
            exact lv_tableOut hx hb hdec hq e1 (kk _ _ _ hR hl)
          next hq => exact lv_tableIn hx hb hdec (fun z => hq (Or.inl z)) (fun z => hq (Or.inr z)) ho e1 (kk _ _ _ hR hl)
        next => cases h
      next => cases h
  case lookupswitch dflt ps =>
      simp only [zact] at h
      split at h
      next x r =>
        split at h
        next hq =>
          obtain ⟨e1, rfl, rfl, rfl⟩ := ztg_ok h
          exact lv_lookup hx hb hdec hq rfl e1 (kk _ _ _ hR hl)
        next => cases h
      next => cases h
end ZA
