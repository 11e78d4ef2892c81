/-! the law from its entry -/
/-- the script's cells -/
def sS (x0 x1 : Nat → Int32) (hp : zHP) : zHP := (fun c => if c = 900 then x0 else if c = 901 then x1 else hp.1 c, hp.2.1, hp.2.2)
theorem sS_cell {x0 x1 : Nat → Int32} {hp : zHP} {ad : Nat → Nat} {cy : Nat → ClassId} {k : Nat} {q : Nat × Nat} (h : k < 900) : zcell ad cy (sS x0 x1 hp) k q = zcell ad cy hp k q := by
  unfold zcell zfv sS
  simp only [if_neg (show k ≠ 900 by omega), if_neg (show k ≠ 901 by omega)]
theorem sS_wd {x0 x1 : Nat → Int32} {hp : zHP} {ad : Nat → Nat} {cy : Nat → ClassId} (nn : Nat) : cwd nn ad cy (sS x0 x1 hp) = cwd nn ad cy hp := by
  apply List.ext_getElem?
  intro k
  unfold cwd
  rw [List.getElem?_mapIdx, List.getElem?_mapIdx]
  cases hz : (zSH.take nn)[k]? with
  | none => rfl
  | some z =>
    have hk : k < 170 := by
      have h1 := (List.getElem?_eq_some_iff.mp hz).1
      rw [List.length_take, zSH_len] at h1
      omega
    show some (ad k, zcell ad cy (sS x0 x1 hp) k z) = some (ad k, zcell ad cy hp k z)
    rw [sS_cell (by omega)]
theorem sS_Z {x0 x1 : Nat → Int32} {hp : zHP} {nn : Nat} (h : cZ nn hp) : cZ nn (sS x0 x1 hp) := by
  intro o h1 h2 j
  obtain ⟨a, b, c⟩ := h o h1 h2 j
  refine ⟨?_, b, c⟩
  show (if o = 900 then x0 else if o = 901 then x1 else hp.1 o) j = 0
  rw [if_neg (by omega), if_neg (by omega)]
  exact a
theorem sG_s {h : Nat → Nat → Option Nat} (hg : sG h = true) {k j : Nat} (hk : k < 170) (hj : j < zln k) (hs : zkd k = 104 ∨ (zkd k < 11 ∧ zfs (zkd k) j = 3)) : h k j = zRA 6 39 none none none k j := by
  unfold sG at hg
  have h1 := List.all_eq_true.mp hg k (List.mem_range.mpr hk)
  by_cases e : zkd k = 104
  · rw [if_pos e] at h1
    exact of_decide_eq_true (List.all_eq_true.mp h1 j (List.mem_range.mpr hj))
  · rw [if_neg e] at h1
    rcases hs with q | ⟨q1, q2⟩
    · exact absurd q e
    · rw [if_pos q1] at h1
      have h2 := List.all_eq_true.mp h1 j (List.mem_range.mpr hj)
      rw [if_pos q2] at h2
      exact of_decide_eq_true h2
section SW
variable {l : Launch} {D : va_G} {cy : Nat → ClassId} {ad : Nat → Nat} {x0 x1 : Nat → Int32} {A : Nat → Prop} {H0 H : Heap} {locs : List Loc}
theorem cwd170 {hp : zHP} : cwd 170 ad cy hp = zwd ad cy hp := by
  unfold cwd zwd
  rw [List.take_of_length_le (by rw [zSH_len]; exact Nat.le_refl _)]
theorem zfs_le : ∀ ci, ci < 11 → ∀ j, j < zNf ci → zfs ci j ≤ 3 := by decide +kernel
theorem arrV_ext {cA : ClassId} {N : Nat} {z w : Nat → Value} (h : ∀ j, j < N → z j = w j) : arrV cA N z = arrV cA N w := by
  unfold arrV
  congr 1
  apply Array.ext
  · simp
  · intro i h1 h2
    simp at h1
    simp [h i h1]
theorem cRel_z {f : Nat → Nat → Int32} {g : Nat → Nat → Int64} {h : Nat → Nat → Option Nat} (hg : sG h = true) (hR : cRel 170 D cy ad A H0 x0 x1 (f, g, h) H locs) : zRel D cy ad A H0 x0 x1 (f, g, zRA 6 39 none none none) H locs := by
  refine ⟨?_, ?_, hR.2.2.1, hR.2.2.2.1, hR.2.2.2.2⟩
  · rw [← cwd170]
    intro k q hq
    obtain ⟨z, hk, hz, rfl⟩ := cwd_get.mp hq
    have h9 := hR.1 k _ (cwd_get.mpr ⟨z, hk, hz, rfl⟩)
    have e1 : zkd k = z.1 := by unfold zkd; rw [List.getD_eq_getElem?_getD, hz]; rfl
    have e2 : zln k = z.2 := by unfold zln; rw [List.getD_eq_getElem?_getD, hz]; rfl
    obtain ⟨t, n⟩ := z
    rcases zSH_kinds _ (List.mem_of_getElem? hz) with ⟨q1, q2⟩ | ⟨q1, q2⟩
    · dsimp only at e1 e2 q1 q2
      have e3 : zcell ad cy (f, g, h) k (t, n) = zcell ad cy (f, g, zRA 6 39 none none none) k (t, n) := by
        unfold zcell
        rw [if_pos (show t < 100 by omega), if_pos (show t < 100 by omega)]
        refine congrArg (fun q : List Value => (Sum.inr (t, q) : va_E)) (List.map_congr_left (fun j hj => ?_))
        have hj := List.mem_range.mp hj
        have h3 := zfs_le t q1 j (by rw [← q2]; exact hj)
        unfold zfv
        have e4 : zfs t j = 0 ∨ zfs t j = 1 ∨ zfs t j = 2 ∨ zfs t j = 3 := by omega
        rcases e4 with e4 | e4 | e4 | e4
        · rw [e4]; rfl
        · rw [e4]; rfl
        · rw [e4]; rfl
        · rw [e4]
          dsimp only
          rw [sG_s hg hk (by rw [e2]; exact hj) (Or.inr ⟨by rw [e1]; exact q1, by rw [e1]; exact e4⟩)]
      rw [← e3]
      exact h9
    · dsimp only at e1 e2 q1 q2
      by_cases e4 : t = 104
      · subst e4
        have h8 : H[ad k]? = some (vp_cell (cy 4) (n, .inr (.inr (.inr (.inr (fun j => (h k j).map ad)))))) := h9
        show H[ad k]? = some (vp_cell (cy 4) (n, .inr (.inr (.inr (.inr (fun j => (zRA 6 39 none none none k j).map ad))))))
        rw [h8, vp_cell_q, vp_cell_q]
        refine congrArg some (arrV_ext (fun j hj => ?_))
        rw [sG_s hg hk (by rw [e2]; exact hj) (Or.inl e1)]
      · have e3 : zcell ad cy (f, g, h) k (t, n) = zcell ad cy (f, g, zRA 6 39 none none none) k (t, n) := by
          unfold zcell
          rw [if_neg (show ¬ t < 100 by omega), if_neg (show ¬ t < 100 by omega)]
          dsimp only
          rw [if_neg e4, if_neg e4]
        rw [← e3]
        exact h9
  · rw [← cwd170]
    exact cD_any hR.2.1
end SW
theorem dQ0 : decode code 0 = .ok (.new 8, 3) := by decide +kernel
theorem dQ3 : decode code 3 = .ok (.dup, 1) := by decide +kernel
theorem dQ4 : decode code 4 = .ok (.invokespecial 17, 3) := by decide +kernel
theorem dQ7 : decode code 7 = .ok (.astore_n 1, 1) := by decide +kernel
theorem dQ8 : decode code 8 = .ok (.new 18, 3) := by decide +kernel
theorem dQ11 : decode code 11 = .ok (.dup, 1) := by decide +kernel
theorem dQ12 : decode code 12 = .ok (.invokespecial 20, 3) := by decide +kernel
theorem dQ15 : decode code 15 = .ok (.astore_n 2, 1) := by decide +kernel
theorem dQ16 : decode code 16 = .ok (.iconst 1, 1) := by decide +kernel
theorem dQ17 : decode code 17 = .ok (.newarray .long, 2) := by decide +kernel
theorem dQ19 : decode code 19 = .ok (.astore_n 3, 1) := by decide +kernel
theorem dQ20 : decode code 20 = .ok (.iconst 0, 1) := by decide +kernel
theorem dQ21 : decode code 21 = .ok (.istore 4, 2) := by decide +kernel

theorem sChk_ok : sChk = true := by decide +kernel
theorem sChk_s : ∃ r q : Nat × zHP, sRA = some r ∧ r.1 = 127 ∧ sRB r.2 = some q ∧ q.1 = 169 ∧ sF q.2.1 q.2.2.1 ∧ sG q.2.2.2 = true := by
  have h := sChk_ok
  unfold sChk at h
  cases hA : sRA with
  | none => rw [hA] at h; cases h
  | some r =>
    rw [hA] at h
    dsimp only at h
    obtain ⟨h1, h⟩ := Bool.and_eq_true_iff.mp h
    cases hB : sRB r.2 with
    | none => rw [hB] at h; cases h
    | some q =>
      rw [hB] at h
      dsimp only at h
      obtain ⟨h2, h4⟩ := Bool.and_eq_true_iff.mp h
      obtain ⟨h2, h3⟩ := Bool.and_eq_true_iff.mp h2
      exact ⟨r, q, rfl, beq_iff_eq.mp h1, hB, beq_iff_eq.mp h2, sFb_s h3, h4⟩
theorem zSH0 : zSH[0]? = some (9, zNf 9) := by decide +kernel
theorem zSH127 : zSH[127]? = some (10, zNf 10) := by decide +kernel
theorem zSH169 : zSH[169]? = some (100 + 3, 1) := by decide +kernel
theorem cSl_u : cSl 0 = 0 ∧ cSl 1 = 12 ∧ cSl 128 = cSl 127 + 66 ∧ cSl 170 = cSl 169 + 1 := by decide +kernel
theorem cSl170 : cSl 170 ≤ 10000 := by decide +kernel
theorem sS_F {x0 x1 : Nat → Int32} {f : Nat → Nat → Int32} {la : Nat → Nat → Int64} (h : sF f la) : sF (fun c => if c = 900 then x0 else if c = 901 then x1 else f c) la := h
set_option maxRecDepth 8000 in
set_option maxHeartbeats 4000000 in
/-- from the entry, for every script of at most 384 ints, the law comes to its end with true -/
theorem whole_start {p : Program} {e : Env} {s : State} {m : MethodId} {below : List Frame} {meth : Method} {c : Code} (l : Launch) (hlt : l.stackTraces = false) {b L : Nat} {xs : Nat → Int32} (hL : L ≤ 384) (C0 : lw_At p s m meth c b L xs) : W p l e room_1 s m #[Value.ref b] below meth c s.heap [] 0 0 (lw_Z below #[Value.ref b] s) (entryFrame m ([Value.ref b] : List Value).toArray 7) := by
  obtain ⟨hx, hb, hr, hml, hown, hts, hX, hbl, hlocks, hgv⟩ := C0
  obtain ⟨D, cy, hK⟩ := ls_K hts
  obtain ⟨adK, adV, hES, hv9⟩ := ls_ES hts hgv
  obtain ⟨rA, rB, hA1, hA2, hB1, hB2, hF, hG⟩ := sChk_s
  obtain ⟨ad, had⟩ : ∃ ad : Nat → Nat, ad = fun k => if k < 170 then s.heap.size + k else if k = 900 then b else if k = 910 then adK 1 else adK 0 := ⟨_, rfl⟩
  have h170 : ∀ j, j < 170 → ad j = s.heap.size + j := fun j hj => by rw [had]; exact if_pos hj
  have h900 : ad 900 = b := by rw [had]; rfl
  have h910 : ad 910 = adK 1 := by rw [had]; rfl
  have h911 : ad 911 = adK 0 := by rw [had]; rfl
  clear had
  have hE := cES_ok adK adV
  have C : zC (cES adK adV) D cy ad (fun q => s.heap.size ≤ q) s.heap xs (fun _ => nI L) zMw p s m #[Value.ref b] c :=
    ⟨hx, hb, hml, hown, fun w hw => hts w (List.mem_filter.mp hw).1, hK, by rw [h910]; exact hv9, hES, fun q h => h, fun _ => ⟨L, by rw [h900]; exact hX, by rw [h900]; exact hbl, by rw [h900]; omega, rfl, by omega⟩, fun q => absurd rfl q⟩
  have hTB : ∀ w ∈ lw_tbl, w.before #[Value.ref b] s = true := hts
  have z0 : cZ 0 sZ := fun o _ _ j => ⟨rfl, rfl, rfl⟩
  have hR0 : cRel 0 D cy ad (fun q => s.heap.size ≤ q) s.heap xs (fun _ => nI L) (sS xs (fun _ => nI L) sZ) s.heap [] := ⟨fun k q hq => absurd (cwd_get.mp hq).choose_spec.1 (by omega), ⟨fun i j u v hi => absurd (cwd_get.mp hi).choose_spec.1 (by omega), fun k q hq => absurd (cwd_get.mp hq).choose_spec.1 (by omega)⟩, va_S.rf, rfl, rfl⟩
  have sl170 := cSl170
  have t2 := cSl_le 1 127 (by omega)
  have t3 := cSl_le 127 128 (by omega)
  have t4 := cSl_le 128 169 (by omega)
  have t5 := cSl_le 169 170 (by omega)
  obtain ⟨u0, u1, u2, u3⟩ := cSl_u
  have hIc : ∀ (y0 y1 : Nat → Int32) (n : Nat), cIok l D cy ad adK adV y0 y1 s.heap.size n := fun y0 y1 n => cI_ok h170 h910 h911 n
  obtain ⟨w0, w1, w2, w3⟩ := cNewT_w (11, 8, 9) (by decide)
  obtain ⟨v0, v1, v2, v3⟩ := cNewT_w (11, 18, 10) (by decide)
  have k9 : cKs[9]? = some (⟨"HandsLet", "<init>", "()V"⟩, prog_1_method_1_code, 1, none, 9) := rfl
  have k10 : cKs[10]? = some (⟨"HandsLetModel", "<init>", "()V"⟩, prog_12_method_1_code, 1, none, 10) := rfl
  obtain ⟨a1, a2, a3⟩ := cI_9 _ _ _ _ _ _ _ _ _ hA1 (cZ_m z0 (by omega)) (by omega)
  have zA : cZ 128 rA.2 := cZ_m a3 (by omega)
  obtain ⟨b1, b2, b3⟩ := cI_9 _ _ _ _ _ _ _ _ _ hB1 zA (by omega)
  have hMA := cImet (x0 := sZ.1 900) (x1 := sZ.1 901) (hIc _ _ 4000) (o := 0) k9 rfl hA1 (cZ_m z0 (by omega)) (by omega) (by omega)
  have hMB := cImet (x0 := rA.2.1 900) (x1 := rA.2.1 901) (hIc _ _ 4000) (o := 127) k10 rfl hB1 zA (by omega) (by omega)
  have hl0 : zlr ad 7 (zent 7 [.ref 900]) ((lg_sl (([.ref 900] : List Value).map (zcv ad)) ++ List.replicate (7 - (lg_sl (([.ref 900] : List Value).map (zcv ad))).length) Slot.unset).toArray) := zent_lr rfl
  rw [show ([.ref 900] : List Value).map (zcv ad) = [Value.ref b] by show [Value.ref (ad 900)] = _; rw [h900]] at hl0
  rw [lg_entry_eq]
  have hnest := hES.1.1.2.2.2.2
  have n9 : zNf 9 = 12 := rfl
  have n10 : zNf 10 = 66 := rfl
  have rC : room_1.cells = 600128 := rfl
  have rS : room_1.slots = 7301098 := rfl
  -- new HandsLet
  refine c_new (nn := 0) (ci := 9) (st := []) (ty := zty 9) C hR0 dQ0 w0 (hts _ w1) (hts _ w2) (hts _ w3) (zuws w0) (zty_ok w0) zSH0 (by rw [h170 0 (by omega)]; rfl) (cfs (sS_Z z0) (by omega) w0) (by omega) (by omega) (fun H _ hR => ?_)
  refine cact_ok C dQ3 rfl rfl hR hl0 (fun H locs lsC hR hl => ?_)
  refine W_size (fun hle => ?_)
  have hlt1 := cRel_lt h170 hR (by omega) (by omega)
  refine c_init (y := 9) (kd := 0) (o := 0) (hp2 := sS xs (fun _ => nI L) rA.2) hE hnest h170 hMA (sS_wd _) rfl rfl (sS_wd _).symm (fun _ => rfl) (fun _ => rfl) C hR (by omega) hl.2.1 (by decide) (by decide) (by omega) (by rw [hA2]; omega) k9 (by omega) (by decide) dQ4 (by decide) (fun H locs hR => ?_)
  rw [hA2] at hR ⊢
  refine cact_ok C dQ7 rfl rfl hR hl (fun H locs lsC hR hl => ?_)
  -- new HandsLetModel
  refine W_size (fun hle => ?_)
  have hlt2 := cRel_lt h170 hR (by omega) (by omega)
  refine c_new (nn := 127) (ci := 10) (st := []) (ty := zty 10) C hR dQ8 v0 (hts _ v1) (hts _ v2) (hts _ v3) (zuws v0) (zty_ok v0) zSH127 (by rw [h170 127 (by omega)]; omega) (cfs (sS_Z (by rw [← hA2]; exact a3)) (by omega) v0) (by omega) (by omega) (fun H _ hR => ?_)
  refine cact_ok C dQ11 rfl rfl hR hl (fun H locs lsC hR hl => ?_)
  refine W_size (fun hle => ?_)
  have hlt3 := cRel_lt h170 hR (by omega) (by omega)
  refine c_init (y := 10) (kd := 0) (o := 127) (hp2 := sS xs (fun _ => nI L) rB.2) hE hnest h170 hMB (sS_wd _) rfl rfl (sS_wd _).symm (fun _ => rfl) (fun _ => rfl) C hR (by omega) hl.2.1 (by decide) (by decide) (by omega) (by rw [hB2]; omega) k10 (by omega) (by decide) dQ12 (by decide) (fun H locs hR => ?_)
  rw [hB2] at hR ⊢
  refine cact_ok C dQ15 rfl rfl hR hl (fun H locs lsC hR hl => ?_)
  refine cact_ok C dQ16 rfl rfl hR hl (fun H locs lsC hR hl => ?_)
  -- new long[1]
  refine W_size (fun hle => ?_)
  have hlt4 := cRel_lt h170 hR (by omega) (by omega)
  have zB : cZ 169 (sS xs (fun _ => nI L) rB.2) := sS_Z (by rw [← hB2]; exact b3)
  refine c_newa (nn := 169) (t := 3) (N := 1) C hR dQ17 (cin cArr_w.2.2.2) rfl zSH169 (by rw [h170 169 (by omega)]; omega) ?_ (by decide) (by decide) (by decide) (by decide) (by omega) (by omega) (fun H _ hR => ?_)
  · rw [if_pos rfl, show (sS xs (fun _ => nI L) rB.2).2.1 169 = fun _ => 0 from funext fun j => (zB 169 (Nat.le_refl _) (by omega) j).2.1]
    rfl
  refine cact_ok C dQ19 rfl rfl hR hl (fun H locs lsC hR hl => ?_)
  refine cact_ok C dQ20 rfl rfl hR hl (fun H locs lsC hR hl => ?_)
  refine cact_ok C dQ21 rfl rfl hR hl (fun H locs lsC hR hl => ?_)
  have hZ := cRel_z hG hR
  exact zLoop hlt (zES_ok adK adV) (zgo (zEX_ok (zES_ok adK adV)) (zEX_str (zstr_ok l h910))) (zC_ES C (fun q => q.1)) hr hlocks (fun q h => h) hL 64 0 _ _ 6 39 none none none H locs lsC _ _ (by omega) (by omega) (sF_inv (sS_F hF)) rfl hZ hl (by omega) (by omega)
