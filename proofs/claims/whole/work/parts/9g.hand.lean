theorem D241_365 : decode code 365 = .ok (.istore 5, 2) := by decide +kernel
theorem D241_367 : decode code 367 = .ok (.aload_n 2, 1) := by decide +kernel
theorem D241_368 : decode code 368 = .ok (.aload_n 0, 1) := by decide +kernel
theorem D241_369 : decode code 369 = .ok (.iload 4, 2) := by decide +kernel
theorem D241_371 : decode code 371 = .ok (.iconst 1, 1) := by decide +kernel
theorem D241_372 : decode code 372 = .ok (.iadd, 1) := by decide +kernel
theorem D241_373 : decode code 373 = .ok (.iaload, 1) := by decide +kernel
theorem D241_374 : decode code 374 = .ok (.aload_n 0, 1) := by decide +kernel
theorem D241_375 : decode code 375 = .ok (.iload 4, 2) := by decide +kernel
theorem D241_377 : decode code 377 = .ok (.iconst 2, 1) := by decide +kernel
theorem D241_378 : decode code 378 = .ok (.iadd, 1) := by decide +kernel
theorem D241_379 : decode code 379 = .ok (.iaload, 1) := by decide +kernel
theorem D241_380 : decode code 380 = .ok (.invokevirtual 44, 3) := by decide +kernel
theorem D241_383 : decode code 383 = .ok (.istore 6, 2) := by decide +kernel
theorem D241_385 : decode code 385 = .ok (.aload_n 2, 1) := by decide +kernel
theorem D241_386 : decode code 386 = .ok (.invokevirtual 45, 3) := by decide +kernel
theorem D241_389 : decode code 389 = .ok (.iload 5, 2) := by decide +kernel
theorem D241_391 : decode code 391 = .ok (.if_icmp .eq 5, 3) := by decide +kernel
theorem D241_394 : decode code 394 = .ok (.iconst 0, 1) := by decide +kernel
theorem D241_395 : decode code 395 = .ok (.ireturn, 1) := by decide +kernel
theorem D241_396 : decode code 396 = .ok (.iload 5, 2) := by decide +kernel
theorem D241_398 : decode code 398 = .ok (.ifCond .ne 15, 3) := by decide +kernel
theorem D241_401 : decode code 401 = .ok (.aload_n 3, 1) := by decide +kernel
theorem D241_402 : decode code 402 = .ok (.iconst 0, 1) := by decide +kernel
theorem D241_403 : decode code 403 = .ok (.laload, 1) := by decide +kernel
theorem D241_404 : decode code 404 = .ok (.iload 6, 2) := by decide +kernel
theorem D241_406 : decode code 406 = .ok (.i2l, 1) := by decide +kernel
theorem D241_407 : decode code 407 = .ok (.lcmp, 1) := by decide +kernel
theorem D241_408 : decode code 408 = .ok (.ifCond .eq 5, 3) := by decide +kernel
theorem D241_411 : decode code 411 = .ok (.iconst 0, 1) := by decide +kernel
theorem D241_412 : decode code 412 = .ok (.ireturn, 1) := by decide +kernel
theorem D241_413 : decode code 413 = .ok (.goto 1060, 3) := by decide +kernel

theorem b241_365 {d : Nat} {i4 : Int32} {s0 : Int32} {ia : Nat → Nat → Int32} {la : Nat → Nat → Int64} {pl dr : Nat} {cp : Option Nat} {cw : Option Nat} {rp : Option Nat} {K : Option Value → zHP → Prop}  : zWP (d + 1) 241 365 [some (.ref 900), some (.ref 0), some (.ref 127), some (.ref 169), some (.int i4), none, none] [.int s0] (ia, la, zRA pl dr cp cw rp) K = (vp_in (i4 + (1 : Int32)) (ia 901 0).toNatClampNeg ∧ (vp_in (i4 + (2 : Int32)) (ia 901 0).toNatClampNeg ∧ zWM d 191 [.ref 127, .int (ia 900 ((i4 + (1 : Int32))).toNatClampNeg), .int (ia 900 ((i4 + (2 : Int32))).toNatClampNeg)] (ia, la, zRA pl dr cp cw rp) (zK (d + 1) 241 383 [some (.ref 900), some (.ref 0), some (.ref 127), some (.ref 169), some (.int i4), some (.int s0), none] [] K))) := by
  refine (Q_istore (ls' := [some (.ref 900), some (.ref 0), some (.ref 127), some (.ref 169), some (.int i4), some (.int s0), none]) zm_241 (Or.inr (by decide)) D241_365 rfl (Nat.le_of_ble_eq_true rfl) rfl).trans ?_
  refine (Q_aload_n zm_241 (Or.inr (by decide)) D241_367 rfl).trans ?_
  refine (Q_aload_n zm_241 (Or.inr (by decide)) D241_368 rfl).trans ?_
  refine (Q_iload zm_241 (Or.inr (by decide)) D241_369 rfl).trans ?_
  refine (Q_iconst (v := 1) zm_241 (Or.inr (by decide)) D241_371 (by decide)).trans ?_
  refine (Q_iadd zm_241 (Or.inr (by decide)) D241_372).trans ?_
  refine (Q_sld zm_241 (Or.inr (by decide)) D241_373 rfl).trans ?_
  refine zand_c (fun h0_ => ?_)
  refine (Q_aload_n zm_241 (Or.inr (by decide)) D241_374 rfl).trans ?_
  refine (Q_iload zm_241 (Or.inr (by decide)) D241_375 rfl).trans ?_
  refine (Q_iconst (v := 2) zm_241 (Or.inr (by decide)) D241_377 (by decide)).trans ?_
  refine (Q_iadd zm_241 (Or.inr (by decide)) D241_378).trans ?_
  refine (Q_sld zm_241 (Or.inr (by decide)) D241_379 rfl).trans ?_
  refine zand_c (fun h1_ => ?_)
  exact Q_callv (as := [.int (ia 900 ((i4 + (1 : Int32))).toNatClampNeg), .int (ia 900 ((i4 + (2 : Int32))).toNatClampNeg)]) (b := 127) (rest := []) zm_241 (Or.inr (by decide)) D241_380 zc_11_44 rfl zk_127.1 (by decide) (by decide +kernel) (by decide) (by simp [zcat, Value.category]) zm_191 rfl

theorem b241_383 {d : Nat} {i4 : Int32} {i5 : Int32} {s0 : Int32} {ia : Nat → Nat → Int32} {la : Nat → Nat → Int64} {pl dr : Nat} {cp : Option Nat} {cw : Option Nat} {rp : Option Nat} {K : Option Value → zHP → Prop}  : zWP (d + 1) 241 383 [some (.ref 900), some (.ref 0), some (.ref 127), some (.ref 169), some (.int i4), some (.int i5), none] [.int s0] (ia, la, zRA pl dr cp cw rp) K = zWM d 128 [.ref 127] (ia, la, zRA pl dr cp cw rp) (zK (d + 1) 241 389 [some (.ref 900), some (.ref 0), some (.ref 127), some (.ref 169), some (.int i4), some (.int i5), some (.int s0)] [] K) := by
  refine (Q_istore (ls' := [some (.ref 900), some (.ref 0), some (.ref 127), some (.ref 169), some (.int i4), some (.int i5), some (.int s0)]) zm_241 (Or.inr (by decide)) D241_383 rfl (Nat.le_of_ble_eq_true rfl) rfl).trans ?_
  refine (Q_aload_n zm_241 (Or.inr (by decide)) D241_385 rfl).trans ?_
  exact Q_callv (as := []) (b := 127) (rest := []) zm_241 (Or.inr (by decide)) D241_386 zc_11_45 rfl zk_127.1 (by decide) (by decide +kernel) (by decide) (by simp [zcat, Value.category]) zm_128 rfl

theorem b241_389 {d : Nat} {i4 : Int32} {i5 : Int32} {i6 : Int32} {s0 : Int32} {ia : Nat → Nat → Int32} {la : Nat → Nat → Int64} {pl dr : Nat} {cp : Option Nat} {cw : Option Nat} {rp : Option Nat} {K : Option Value → zHP → Prop}  : zWP d 241 389 [some (.ref 900), some (.ref 0), some (.ref 127), some (.ref 169), some (.int i4), some (.int i5), some (.int i6)] [.int s0] (ia, la, zRA pl dr cp cw rp) K = (if s0 = i5 then (if ¬ i5 = 0 then zWP d 241 1473 [some (.ref 900), some (.ref 0), some (.ref 127), some (.ref 169), some (.int i4), some (.int i5), some (.int i6)] [] (ia, la, zRA pl dr cp cw rp) K else (if (lg_cmp (la 169 0) (i6).toInt64) = 0 then zWP d 241 1473 [some (.ref 900), some (.ref 0), some (.ref 127), some (.ref 169), some (.int i4), some (.int i5), some (.int i6)] [] (ia, la, zRA pl dr cp cw rp) K else K (some (.int (0 : Int32))) (ia, la, zRA pl dr cp cw rp))) else K (some (.int (0 : Int32))) (ia, la, zRA pl dr cp cw rp)) := by
  refine (Q_iload zm_241 (Or.inr (by decide)) D241_389 rfl).trans ?_
  refine (Q_ic_eq (tgt := 396) zm_241 (Or.inr (by decide)) D241_391 (by decide)).trans ?_
  refine zif_c (fun h0_ => ?_) (fun h0_ => ?_)
  · refine (Q_iload zm_241 (Or.inr (by decide)) D241_396 rfl).trans ?_
    refine (Q_if_ne (tgt := 413) zm_241 (Or.inr (by decide)) D241_398 (by decide)).trans ?_
    refine zif_c (fun h1_ => ?_) (fun h1_ => ?_)
    · refine (Q_goto (tgt := 1473) zm_241 (Or.inr (by decide)) D241_413 (by decide)).trans ?_
      rfl
    · refine (Q_aload_n zm_241 (Or.inr (by decide)) D241_401 rfl).trans ?_
      refine (Q_iconst (v := 0) zm_241 (Or.inr (by decide)) D241_402 (by decide)).trans ?_
      refine ((Q_laload zm_241 (Or.inr (by decide)) D241_403 zk_169.1 zk_169.2).trans (zdrop (zin_spec (by decide)))).trans ?_
      refine (Q_iload zm_241 (Or.inr (by decide)) D241_404 rfl).trans ?_
      refine (Q_i2l zm_241 (Or.inr (by decide)) D241_406).trans ?_
      refine (Q_lcmp zm_241 (Or.inr (by decide)) D241_407).trans ?_
      refine (Q_if_eq (tgt := 413) zm_241 (Or.inr (by decide)) D241_408 (by decide)).trans ?_
      refine zif_c (fun h2_ => ?_) (fun h2_ => ?_)
      · refine (Q_goto (tgt := 1473) zm_241 (Or.inr (by decide)) D241_413 (by decide)).trans ?_
        rfl
      · refine (Q_iconst (v := 0) zm_241 (Or.inr (by decide)) D241_411 (by decide)).trans ?_
        exact Q_zreturn zm_241 (Or.inr (by decide)) D241_412 rfl (by decide)
  · refine (Q_iconst (v := 0) zm_241 (Or.inr (by decide)) D241_394 (by decide)).trans ?_
    exact Q_zreturn zm_241 (Or.inr (by decide)) D241_395 rfl (by decide)
section ZP
variable {d pl dr i L : Nat} {cp cw rp : Option Nat} {ia : Nat → Nat → Int32} {la : Nat → Nat → Int64} {KL : Option Value → zHP → Prop}
/-- how the class's hand ends: 0 with the answer v, 1 no such person, 2 no such thing -/
def yHn (pl : Nat) (ia : Nat → Nat → Int32) (x1 x2 : Int32) (k : Nat) (v : Int32) : Prop :=
  (k = 1 ∧ (x1 < 0 ∨ ia pl 1 ≤ x1)) ∨
  ∃ h, h < 6 ∧ x1 = nI h ∧ ¬ (x1 < 0 ∨ ia pl 1 ≤ x1) ∧ ((k = 2 ∧ (x2 < 0 ∨ 6 < x2)) ∨
    (k = 0 ∧ ∃ j, j ≤ 6 ∧ x2 = nI j ∧ ((j < 3 ∧ v = ia 74 (3 * h + j)) ∨ (3 ≤ j ∧ j < 6 ∧ v = ia (72 + j) h) ∨ (j = 6 ∧ v = zHd (fun g => ia (72 + g)) h))))
theorem Y_hand (hI : zInv pl dr ia la) (x1 x2 : Int32) : ∃ k v, k < 3 ∧ yHn pl ia x1 x2 k v ∧ ∀ (d : Nat) (cp cw rp : Option Nat) (lb : Nat → Nat → Int64) (K : Option Value → zHP → Prop), (∀ u, (k = 0 → u = v) → K (some (.int u)) (zu ia 127 0 (nI k), lb, zRA pl dr cp cw rp)) → zWM (d + 400) 191 [.ref 127, .int x1, .int x2] (ia, lb, zRA pl dr cp cw rp) K := by
  obtain ⟨i1, i2, i3, i4, i5, i6, i7, p, N, L, T, D, W, r, hC, hM, hDe, hNo⟩ := hI
  have hN6 : N ≤ 6 := hC.2.1.2.1
  have hR := hC.2.2.1
  have hpn : ia pl 1 = nI N := zC_N hC
  have hl := zC_0 hC
  have hl' : zHas N 0 W r (zu ia 127 0 0) := zHas_fr (la := la) (lb := la) (by decide) (zFr_0 zFr_r) hl
  have hW3 : ∀ g, g < 10 → ia (72 + g) = W g := fun g hg => zC_W hC hg
  rcases zpers x1 (N := N) (by omega) with h | ⟨h, hh, rfl, hn⟩
  · refine ⟨1, 0, by omega, Or.inl ⟨rfl, by rw [hpn]; exact h⟩, fun d cp cw rp lb K q => ?_⟩
    rw [e191, b191_0, S_isM hR, kS, b191_6, if_pos h, if_neg (fun q => q rfl), b191_28, zu_eq, if_neg (by decide)]
    exact q _ (fun z => absurd z (by decide))
  · have two : (x2 < 0 ∨ 6 < x2) → ∃ k v, k < 3 ∧ yHn pl ia (nI h) x2 k v ∧ ∀ (d : Nat) (cp cw rp : Option Nat) (lb : Nat → Nat → Int64) (K : Option Value → zHP → Prop), (∀ u, (k = 0 → u = v) → K (some (.int u)) (zu ia 127 0 (nI k), lb, zRA pl dr cp cw rp)) → zWM (d + 400) 191 [.ref 127, .int (nI h), .int x2] (ia, lb, zRA pl dr cp cw rp) K := by
      intro c
      refine ⟨2, 0, by omega, Or.inr ⟨h, by omega, rfl, by rw [hpn]; exact hn, Or.inl ⟨rfl, c⟩⟩, fun d cp cw rp lb K q => ?_⟩
      rw [e191, b191_0, S_isM hR, kS, b191_6, if_neg hn, if_pos (by decide)]
      have e : zWP (d + 400) 191 23 [some (.ref 127), some (.int (nI h)), some (.int x2)] [.ref 127] (ia, lb, zRA pl dr cp cw rp) K := by
        rw [b191_23, b191_28, zu_eq, if_neg (by decide)]
        exact q _ (fun z => absurd z (by decide))
      by_cases c0 : x2 < 0
      · rw [if_pos c0]; exact e
      · rw [if_neg c0, if_neg (fun z => by rcases c with c | c; exact c0 c; exact absurd z (Int32.not_le.mpr c))]; exact e
    rcases zpers x2 (N := 7) (by omega) with c | ⟨j, hj, rfl, c⟩
    · refine two ?_
      rcases c with c | c
      · exact Or.inl c
      · exact Or.inr (Int32.lt_of_lt_of_le (show (6 : Int32) < nI 7 by decide) c)
    · have c0 : ¬ nI j < 0 := fun z => c (Or.inl z)
      have c6 : nI j ≤ 6 := nI_le1 (b := 6) (by omega) (by omega)
      have go : ∀ (v : Int32), ((j < 3 ∧ v = ia 74 (3 * h + j)) ∨ (3 ≤ j ∧ j < 6 ∧ v = ia (72 + j) h) ∨ (j = 6 ∧ v = zHd (fun g => ia (72 + g)) h)) → (∀ (d : Nat) (cp cw rp : Option Nat) (lb : Nat → Nat → Int64) (K : Option Value → zHP → Prop), K (some (.int v)) (zu ia 127 0 (nI 0), lb, zRA pl dr cp cw rp) → zWP (d + 400) 191 28 [some (.ref 127), some (.int (nI h)), some (.int (nI j))] [.int 0, .ref 127] (ia, lb, zRA pl dr cp cw rp) K) → ∃ k v, k < 3 ∧ yHn pl ia (nI h) (nI j) k v ∧ ∀ (d : Nat) (cp cw rp : Option Nat) (lb : Nat → Nat → Int64) (K : Option Value → zHP → Prop), (∀ u, (k = 0 → u = v) → K (some (.int u)) (zu ia 127 0 (nI k), lb, zRA pl dr cp cw rp)) → zWM (d + 400) 191 [.ref 127, .int (nI h), .int (nI j)] (ia, lb, zRA pl dr cp cw rp) K := by
        intro v hv hk
        refine ⟨0, v, by omega, Or.inr ⟨h, by omega, rfl, by rw [hpn]; exact hn, Or.inr ⟨rfl, j, by omega, rfl, hv⟩⟩, fun d cp cw rp lb K q => ?_⟩
        rw [e191, b191_0, S_isM hR, kS, b191_6, if_neg hn, if_pos (by decide), if_neg c0, if_pos c6]
        exact hk _ _ _ _ _ _ (q v (fun _ => rfl))
      by_cases j3 : j < 3
      · refine go _ (Or.inl ⟨j3, rfl⟩) (fun d cp cw rp lb K q => ?_)
        have e3 : j = 0 ∨ j = 1 ∨ j = 2 := by omega
        have ev : zu ia 127 0 0 152 (3 * h + j) = ia 74 (3 * h + j) := by rw [zu_o (by decide), zC_152 hC (by omega), ← hW3 2 (by omega)]
        have f3 : ¬ nI j = 3 := by rcases e3 with rfl | rfl | rfl <;> decide
        have f4 : ¬ nI j = 4 := by rcases e3 with rfl | rfl | rfl <;> decide
        have f5 : ¬ nI j = 5 := by rcases e3 with rfl | rfl | rfl <;> decide
        have f6 : ¬ nI j = 6 := by rcases e3 with rfl | rfl | rfl <;> decide
        rw [b191_28, zu_eq, if_pos rfl, if_neg f3, if_neg f4, if_neg f5, if_neg f6, m3, zg (by omega) (by omega), zcln (by omega), ev]
        exact q
      have e4 : j = 3 ∨ j = 4 ∨ j = 5 ∨ j = 6 := by omega
      rcases e4 with rfl | rfl | rfl | rfl
      · refine go _ (Or.inr (Or.inl ⟨by omega, by omega, rfl⟩)) (fun d cp cw rp lb K q => ?_)
        rw [b191_28, zu_eq, if_pos rfl, if_pos (by decide), zg (by omega) (by omega), zcln (by omega), e190, b190_0, zu_o (by decide), (zC_153 hC (by omega)).1]
        rw [hW3 3 (by omega)] at q
        rcases hC.2.2.2.2.2.1.1.2.1 h hh with ⟨z, -⟩ | ⟨t, n, z1, z2, z3, z, -⟩
        · rw [z] at q ⊢
          rw [if_neg (fun z => z (by decide)), kS, b191_81]
          exact q
        · rw [z] at q ⊢
          rw [zet_n (by omega), if_pos (fun q => nI_pos (n := t) (by omega) (by rw [q]; decide)), kS, b191_81]
          exact q
      · refine go _ (Or.inr (Or.inl ⟨by omega, by omega, rfl⟩)) (fun d cp cw rp lb K q => ?_)
        rw [b191_28, zu_eq, if_pos rfl, if_neg (by decide), if_pos (by decide), zg (by omega) (by omega), zcln (by omega), zu_o (by decide), (zC_153 hC (by omega)).2.1, ← hW3 4 (by omega)]
        exact q
      · refine go _ (Or.inr (Or.inl ⟨by omega, by omega, rfl⟩)) (fun d cp cw rp lb K q => ?_)
        rw [b191_28, zu_eq, if_pos rfl, if_neg (by decide), if_neg (by decide), if_pos (by decide), zg (by omega) (by omega), zcln (by omega), zu_o (by decide), (zC_153 hC (by omega)).2.2.1, ← hW3 5 (by omega)]
        exact q
      · refine go _ (Or.inr (Or.inr ⟨rfl, rfl⟩)) (fun d cp cw rp lb K q => ?_)
        rw [b191_28, zu_eq, if_pos rfl, if_neg (by decide), if_neg (by decide), if_neg (by decide), if_pos (by decide), show (0 : Int32) = nI 0 from rfl, S_hdM (ia := zu ia 127 0 (nI 0)) (by omega) hl' (by omega), kS, b191_102]
        have ez : zHd (fun g => ia (72 + g)) h = zHd W h := by
          unfold zHd
          show (if ia (72 + 3) h < 0 then nI h else ia (72 + 3) h) = _
          rw [hW3 3 (by omega)]
        rw [ez] at q
        exact q
/-- behind the class's hand the law goes on to its next call -/
theorem L_hand (hI : zInv pl dr ia la) (eL : ia 901 0 = nI L) (hL : L ≤ 384) (hi : i + 6 ≤ L) (hX : yXs ia i KL) : ∃ k v, k < 3 ∧ yHn pl ia (ia 900 (i + 1)) (ia 900 (i + 2)) k v ∧ ∀ lb : Nat → Nat → Int64, lb 72 = la 72 → lb 82 = la 82 → (k = 0 → lb 169 0 = v.toInt64) → zWP (d + 401) 241 365 (yLs i) [.int (nI k)] (ia, lb, zRA pl dr cp cw rp) KL := by
  obtain ⟨k, v, hk, hy, hz⟩ := Y_hand hI (ia 900 (i + 1)) (ia 900 (i + 2))
  refine ⟨k, v, hk, hy, fun lb h1 h2 h0 => ?_⟩
  have eL2 : (ia 901 0).toNatClampNeg = L := by rw [eL]; exact zcln (by omega)
  rw [b241_365, eL2, show nI i + 1 = nI (i + 1) from ns i, show nI i + 2 = nI (i + 2) from by rw [show (2 : Int32) = nI 2 from rfl, nI_add], zg (by omega) (by omega), zg (by omega) (by omega), zcln (show i + 1 < 100000 by omega), zcln (show i + 2 < 100000 by omega)]
  refine hz _ _ _ _ _ _ (fun u hu => ?_)
  rw [kS, b241_383, e128, b128_0, kS, b241_389, zu_eq, if_pos rfl]
  have hf : zFr ia la (zu ia 127 0 (nI k)) la := zFr_0 zFr_r
  have fin : ∀ x y : Int32, zWP (d + 401) 241 1473 [some (.ref 900), some (.ref 0), some (.ref 127), some (.ref 169), some (.int (nI i)), some (.int x), some (.int y)] [] (zu ia 127 0 (nI k), lb, zRA pl dr cp cw rp) KL := fun x y => by
    rw [zE_exit (v := some (.float (nI i).toUInt32)) zm_241 rfl]
    exact hX _ _ _ _ _ _ _ (zInv_fr hI ⟨hf.1, h1, h2⟩) (zu_o (by decide)) (zu_o (by decide))
  by_cases c : nI k = 0
  · have k0 : k = 0 := by
      have e3 : k = 0 ∨ k = 1 ∨ k = 2 := by omega
      rcases e3 with e | e | e
      · exact e
      · rw [e] at c; exact absurd c (by decide)
      · rw [e] at c; exact absurd c (by decide)
    rw [if_neg (fun q => q c), h0 k0, hu k0, if_pos ((lg_cmp_eq _ _).mpr rfl)]
    exact fin _ _
  · rw [if_pos c]
    exact fin _ _
end ZP
